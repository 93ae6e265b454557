section RP
variable {B L : Nat} {xs : Nat → Int32} {C : HC} {I J K : HI} {D : Nat → Int32}
theorem isLook_c {x y w : Int32} (h : J 1 = I 1) : M_Wall_isLook J x y w = M_Wall_isLook I x y w := by
  unfold M_Wall_isLook M_Wall_areTwo M_Wall_hasStroke
  rw [h]
theorem mg_self (I : HI) : xrow I 89 (I 89) = I := by
  funext c
  unfold xrow
  by_cases h : c = 89
  · rw [if_pos h, h]
  · rw [if_neg h]
theorem mg_eq (h : ∀ c, c ≠ 89 → K c = J c) : xrow J 89 (K 89) = K := by
  funext c
  unfold xrow
  by_cases e : c = 89
  · rw [if_pos e, e]
  · rw [if_neg e, h c e]
theorem mg_add (Ic Im : HI) (n p q r : Nat) (x y w v : Int32) : xrow (xu (xu (xu (xu Ic 11 n x) 12 n y) 13 n w) 1 5 v) 89 ((xu (xu (xu (xu Im 89 p x) 89 q y) 89 r w) 89 1 v) 89) = xu (xu (xu (xu (xu (xu (xu (xu (xrow Ic 89 (Im 89)) 11 n x) 12 n y) 13 n w) 1 5 v) 89 p x) 89 q y) 89 r w) 89 1 v := by
  funext c j
  by_cases e : c = 89
  · subst e
    rw [xr_at]
    simp only [xu_app, if_pos rfl, show ¬ (89 : Nat) = 1 by decide, show ¬ (89 : Nat) = 13 by decide, show ¬ (89 : Nat) = 12 by decide, show ¬ (89 : Nat) = 11 by decide, if_false, if_true]
    rw [xr_at]
  · rw [xr_ne e, xu_ne e, xu_ne e, xu_ne e, xu_ne e]
    simp only [xu_app]
    rw [xr_ne e]
theorem looks_sim {s : Nat} (hs : s < 4) : ∀ f i (Ic Im : HI), Rel B L xs C (xrow Ic 89 (Im 89)) → Im 104 = Ic 104 → Im 105 = Ic 105 → 3 * i ≤ 40 → 12 - nL (Im 89) < f → ∃ t v Jc Km, L_H_looks_40 (nI s) (80 + s) f (nI i) (nI (3 * i)) Ic = some (t, v, Jc) ∧ L_Model_looks_24 (nI s) f (nI i) (nI (40 * s + 3 * i)) Im = some (v, Km) ∧ Rel B L xs C (xrow Jc 89 (Km 89)) ∧ (∀ c, c ≠ 89 → Km c = Im c) ∧ (∀ c, c ≠ 1 → c ≠ 11 → c ≠ 12 → c ≠ 13 → Jc c = Ic c) := by
  intro f
  induction f with
  | zero => intro i Ic Im _ _ _ _ h; omega
  | succ f ih =>
    intro i Ic Im hR h104 h105 hi hf
    have hsh : SH (xrow Ic 89 (Im 89)) := hR.2.2.2.2.2.2.2.1
    obtain ⟨a1, a2, a3, ⟨m, a4, a4'⟩, a5⟩ := hsh s hs
    rw [xr_ne (by decide)] at a4' a2
    rw [xr_ne (by decide)] at a2
    have h12 := hR.2.1.2.1.2
    have hl := lk_nI hR
    have hm := mL_nI hR
    have r89 : xrow Ic 89 (Im 89) 89 = Im 89 := funext fun j => xr_at
    rw [r89] at hl hm h12
    rw [xr_ne (by decide)] at hl
    unfold L_H_looks_40 L_Model_looks_24
    rw [grd_t (bnd_nI hs (by omega)), grd_t (bnd_nI hs (by omega)), nI_clamp (by omega), a4', h104, ← a2, a4', hl, hm]
    have e1 : nI (3 * i) + (2 : Int32) = nI (3 * i + 2) := nI_add _ 2
    have e2 : (3 : Int32) * nI i + (3 : Int32) = nI (3 * i + 3) := by rw [show (3 : Int32) * nI i = nI (3 * i) from pk_mul 3 i]; exact nI_add _ 3
    have e3 : nI (3 * i) + (1 : Int32) = nI (3 * i + 1) := nI_1 _
    have e4 : nI (40 * s + 3 * i) + (2 : Int32) = nI (40 * s + 3 * i + 2) := nI_add _ 2
    have e5 : nI (40 * s + 3 * i) + (1 : Int32) = nI (40 * s + 3 * i + 1) := nI_1 _
    rw [e1, e2, e3, e4, e5]
    by_cases c1 : m ≤ 3 * i + 2
    · rw [if_pos (nI_le c1 (by omega)), if_pos (nI_lt (by omega) (by omega))]
      exact ⟨1, nI i, Ic, Im, rfl, rfl, hR, fun _ _ => rfl, fun _ _ _ _ _ => rfl⟩
    · rw [if_neg (nI_ge (by omega) (by omega)), if_neg (nI_nlt (by omega) (by omega))]
      by_cases c2 : 12 ≤ nL (Im 89)
      · rw [if_pos (c_le 12 12 c2 (by omega)), if_pos (c_le 12 12 c2 (by omega))]
        exact ⟨1, nI i, Ic, Im, rfl, rfl, hR, fun _ _ => rfl, fun _ _ _ _ _ => rfl⟩
      · rw [if_neg (c_nle 12 12 (by omega)), if_neg (c_nle 12 12 (by omega))]
        rw [grd_t (bnd_nI (show 3 * i < 40 by omega) (by omega)), grd_t (bnd_nI (show 3 * i + 1 < 40 by omega) (by omega)), grd_t (bnd_nI (show 3 * i + 2 < 40 by omega) (by omega)), grd_t (bnd_nI (show 40 * s + 3 * i < 160 by omega) (by omega)), grd_t (bnd_nI (show 40 * s + 3 * i + 1 < 160 by omega) (by omega)), grd_t (bnd_nI (show 40 * s + 3 * i + 2 < 160 by omega) (by omega))]
        rw [nI_clamp (show 3 * i < 2 ^ 31 by omega), nI_clamp (show 3 * i + 1 < 2 ^ 31 by omega), nI_clamp (show 3 * i + 2 < 2 ^ 31 by omega), nI_clamp (show 40 * s + 3 * i < 2 ^ 31 by omega), nI_clamp (show 40 * s + 3 * i + 1 < 2 ^ 31 by omega), nI_clamp (show 40 * s + 3 * i + 2 < 2 ^ 31 by omega)]
        have a5' : ∀ j, j < 40 → Im 105 (40 * s + j) = Ic (80 + s) j := fun j hj => by
          have := a5 j hj
          rw [xr_ne (by omega), xr_ne (by omega)] at this
          rw [h105]; exact this.symm
        rw [a5' (3 * i) (by omega), show Im 105 (40 * s + 3 * i + 1) = Ic (80 + s) (3 * i + 1) from a5' (3 * i + 1) (by omega), show Im 105 (40 * s + 3 * i + 2) = Ic (80 + s) (3 * i + 2) from a5' (3 * i + 2) (by omega)]
        generalize Ic (80 + s) (3 * i) = x
        generalize Ic (80 + s) (3 * i + 1) = y
        generalize Ic (80 + s) (3 * i + 2) = w
        have ht : M_Model_isTold Im x y w = M_Wall_isLook Ic x y w := by
          rw [told_eq hR x y w Im r89.symm, isLook_c (xr_ne (by decide))]
        rw [ht]
        by_cases c3 : M_Wall_isLook Ic x y w = 0
        · rw [if_pos c3, if_pos c3]
          exact ⟨0, nI i, Ic, Im, rfl, rfl, hR, fun _ _ => rfl, fun _ _ _ _ _ => rfl⟩
        · rw [if_neg c3, if_neg c3]
          obtain ⟨u, t, a, g1, g2, g3, g4, g5, rfl, rfl, rfl⟩ := told_val hR (x := x) (y := y) (w := w) (by rw [isLook_c (I := Ic) (xr_ne (by decide))]; exact c3)
          rw [add_c hl (by omega), add_m hm (by omega), Option.bind_some, Option.bind_some]
          have hK := add_rel hR (n := nL (Im 89)) (by rw [r89]) (by omega) g1 g2 g3 g4 g5
          rw [← mg_add] at hK
          have e6 : nI (3 * i) + (3 : Int32) = nI (3 * (i + 1)) := nI_add _ 3
          have e7 : nI (40 * s + 3 * i) + (3 : Int32) = nI (40 * s + 3 * (i + 1)) := nI_add _ 3
          rw [nI_1, e6, e7]
          have hn1 : nL ((xu (xu (xu (xu Im 89 (61 + 3 * nL (Im 89)) (nI u)) 89 (61 + 3 * nL (Im 89) + 1) (nI t)) 89 (61 + 3 * nL (Im 89) + 2) (nI a)) 89 1 (nI (nL (Im 89) + 1))) 89) = nL (Im 89) + 1 := nL_v xu_rr (by omega)
          obtain ⟨t', v, Jc, Km, k1, k2, k3, k4, k5⟩ := ih (i + 1) _ _ hK (by rw [xu_ne (by decide), xu_ne (by decide), xu_ne (by decide), xu_ne (by decide), xu_ne (by decide), xu_ne (by decide), xu_ne (by decide), xu_ne (by decide)]; exact h104) (by rw [xu_ne (by decide), xu_ne (by decide), xu_ne (by decide), xu_ne (by decide), xu_ne (by decide), xu_ne (by decide), xu_ne (by decide), xu_ne (by decide)]; exact h105) (by omega) (by rw [hn1]; omega)
          refine ⟨t', v, Jc, Km, k1, k2, k3, fun c hc => by rw [k4 c hc, xu_ne hc, xu_ne hc, xu_ne hc, xu_ne hc], fun c c1 c2 c3 c4 => by rw [k5 c c1 c2 c3 c4, xu_ne c1, xu_ne c4, xu_ne c3, xu_ne c2]⟩
theorem ok_looks (h : Rel B L xs C I) (x : Int32) : OK1 B L xs C (M_H_looks I x) (fun J => M_Model_looks J x) := by
  have hsh : SH I := h.2.2.2.2.2.2.2.1
  unfold M_H_looks M_Model_looks M_Model_whyNot
  simp only [bsome]
  rcases ix_case x 4 (by omega) with ⟨s, hs, rfl⟩ | hx
  · simp only [(sht_y hs).1, (sht_y hs).2, if_neg one0, grd_t (bnd_nI hs (by omega)), nI_clamp (show s < 2 ^ 31 by omega)]
    obtain ⟨a1, a2, a3, a4, a5⟩ := hsh s hs
    by_cases h0 : I 84 s = 0
    · rw [if_pos h0]
      refine err_ok0 2 (by decide) (by decide) h rfl ?_
      show (Option.bind (if xu I 87 2 _ 103 s = 0 then _ else _) _) = _
      rw [xu_qn (by decide), ← a1, if_pos h0]; rfl
    · rw [if_neg h0]
      have hf : 12 - nL (I 89) < 1000 := by omega
      -- the class's own run first, on a state of its own
      obtain ⟨t, v, Jc, Km, k1, -, -, -, k5⟩ := looks_sim (B := B) (L := L) (xs := xs) (C := C) hs 1000 0 I I (by rw [mg_self]; exact h) rfl rfl (by omega) hf
      have hJ : ∀ c, c ≠ 1 → c ≠ 11 → c ≠ 12 → c ≠ 13 → Jc c = I c := k5
      obtain ⟨t', v', Jc', Km', l1, l2, l3, l4, l5⟩ := looks_sim (B := B) (L := L) (xs := xs) (C := C) hs 1000 0 I Jc (by rw [hJ 89 (by decide) (by decide) (by decide) (by decide), mg_self]; exact h) (hJ 104 (by decide) (by decide) (by decide) (by decide)) (hJ 105 (by decide) (by decide) (by decide) (by decide)) (by omega) (by rw [hJ 89 (by decide) (by decide) (by decide) (by decide)]; exact hf)
      rw [k1] at l1
      have e := Option.some.inj l1
      have e1 : v = v' := congrArg (fun p => p.2.1) e
      have e2 : Jc = Jc' := congrArg (fun p => p.2.2) e
      subst e1
      subst e2
      refine ⟨v, Jc, Km', ?_, ?_, ?_⟩
      · rw [show (0 : Int32) = nI 0 from rfl, show nI 0 = nI (3 * 0) from rfl, k1, Option.bind_some]
        split <;> rfl
      · show (Option.bind (if Jc 103 s = 0 then _ else _) _) = _
        rw [hJ 103 (by decide) (by decide) (by decide) (by decide), ← a1, if_neg h0, Option.bind_some, if_pos rfl, show (40 : Int32) * nI s = nI (40 * s + 3 * 0) from by rw [Nat.mul_zero, Nat.add_zero]; exact pk_mul 40 s, show (0 : Int32) = nI 0 from rfl]
        exact l2
      · rw [mg_eq l4] at l3
        exact l3
  · simp only [(sht_n hx).1, (sht_n hx).2, if_pos rfl]
    exact err_ok0 1 (by decide) (by decide) h rfl rfl
end RP
