section RA
variable {B L : Nat} {xs : Nat → Int32} {C : HC} {I J K : HI} {D : Nat → Int32}
theorem xu_comm {r q k j : Nat} {v w : Int32} (h : r ≠ q) : xu (xu I r k v) q j w = xu (xu I q j w) r k v := by
  funext c i
  simp only [xu_app]
  by_cases e1 : c = q
  · subst e1
    rw [if_pos rfl, if_neg (Ne.symm h), if_neg (Ne.symm h), if_pos rfl]
  · rw [if_neg e1, if_neg e1]
theorem mg_c {r k : Nat} {v : Int32} (h : r ≠ 89) : xrow (xu I r k v) 89 D = xu (xrow I 89 D) r k v := by
  funext c i
  by_cases e : c = 89
  · subst e
    rw [xr_at, xu_qn (Ne.symm h), xr_at]
  · rw [xr_ne e, xu_app, xu_app, xr_ne e]
theorem mg_m {k : Nat} {v : Int32} : xrow I 89 (xu K 89 k v 89) = xu (xrow I 89 (K 89)) 89 k v := by
  funext c i
  by_cases e : c = 89
  · subst e
    rw [xr_at, xu_app, xu_app, xr_at]
  · rw [xr_ne e, xu_ne e, xr_ne e]
theorem seed_rel (h : Rel B L xs C I) (x : Int32) : Rel B L xs C (xu (xu I 1 12 x) 89 2 x) := by
  obtain ⟨v, J, K, h1, h2, h3⟩ := ok_seed h x
  have e1 : xu I 1 12 x = J := congrArg Prod.snd (Option.some.inj h1)
  subst e1
  have e2 : xu (xu I 1 12 x) 89 2 x = K := congrArg Prod.snd (Option.some.inj h2)
  subst e2
  exact h3
theorem turn_rel (h : Rel B L xs C I) {l : Nat} (hl : l < nL (I 89)) : Rel B L xs C (xu (xu (xu (xu I 11 l (I 12 l)) 12 l (I 11 l)) 89 (61 + 3 * l) (I 12 l)) 89 (61 + 3 * l + 1) (I 11 l)) := by
  obtain ⟨z1, z2, z3, z4, z5, z6⟩ := h.za
  have l12 := z2.1.2
  have e : ∀ k, k ≠ 61 + 3 * l → k ≠ 61 + 3 * l + 1 → (xu (xu (xu (xu I 11 l (I 12 l)) 12 l (I 11 l)) 89 (61 + 3 * l) (I 12 l)) 89 (61 + 3 * l + 1) (I 11 l)) 89 k = I 89 k := fun k h1 h2 => by rw [xu_rn h2, xu_rn h1, xu_qn (by decide), xu_qn (by decide)]
  have ec : ∀ c, c ≠ 11 → c ≠ 12 → c ≠ 89 → (xu (xu (xu (xu I 11 l (I 12 l)) 12 l (I 11 l)) 89 (61 + 3 * l) (I 12 l)) 89 (61 + 3 * l + 1) (I 11 l)) c = I c := fun c h1 h2 h3 => by rw [xu_ne h3, xu_ne h3, xu_ne h2, xu_ne h1]
  have n0 := nS_c (e 0 (by omega) (by omega))
  have n1 := nL_c (e 1 (by omega) (by omega))
  refine h.upL (fun c _ c2 c3 _ c5 _ => ec c c2 c3 c5) (by rw [ec 88 (by decide) (by decide) (by decide)]) (by rw [ec 88 (by decide) (by decide) (by decide)]) (fun k _ hk => e k (by omega) (by omega)) (fun k _ => by rw [ec 1 (by decide) (by decide) (by decide)]) ?_
  refine ⟨by rw [n1, e 1 (by omega) (by omega)]; exact z2.1, fun j hj => ?_, by rw [ec 1 (by decide) (by decide) (by decide), e 1 (by omega) (by omega)]; exact z2.2.2⟩
  rw [n1] at hj
  obtain ⟨g1, g2, g3, g4⟩ := z2.2.1 j hj
  by_cases ej : j = l
  · subst ej
    refine ⟨?_, ?_, ?_, ?_⟩
    · obtain ⟨u, w, a, a1, a2, a3, a4, a5, a6, a7, a8⟩ := g1
      exact ⟨w, u, a, by omega, by omega, Ne.symm a3, a4, a5, by rw [xu_rn (by omega), xu_rr]; exact g3.trans a7, by rw [xu_rr]; exact g2.trans a6, by rw [e _ (by omega) (by omega)]; exact a8⟩
    · show (xu (xu (xu (xu I 11 j _) 12 j _) 89 _ _) 89 _ _) 11 j = _
      rw [xu_qn (by decide), xu_qn (by decide), xu_qn (by decide), xu_rr, xu_rn (by omega), xu_rr]
    · show (xu (xu (xu (xu I 11 j _) 12 j _) 89 _ _) 89 _ _) 12 j = _
      rw [xu_qn (by decide), xu_qn (by decide), xu_rr, xu_rr]
    · rw [ec (1 + 12) (by decide) (by decide) (by decide), e _ (by omega) (by omega)]; exact g4
  · refine ⟨g1.c (by omega) (fun k hk => e _ (by omega) (by omega)), ?_, ?_, ?_⟩
    · show (xu (xu (xu (xu I 11 l _) 12 l _) 89 _ _) 89 _ _) 11 j = _
      rw [xu_qn (by decide), xu_qn (by decide), xu_qn (by decide), xu_rn ej, e _ (by omega) (by omega)]; exact g2
    · show (xu (xu (xu (xu I 11 l _) 12 l _) 89 _ _) 89 _ _) 12 j = _
      rw [xu_qn (by decide), xu_qn (by decide), xu_rn ej, xu_qn (by decide), e _ (by omega) (by omega)]; exact g3
    · rw [ec (1 + 12) (by decide) (by decide) (by decide), e _ (by omega) (by omega)]; exact g4
theorem again_sim : ∀ f i (t : Int32) (Ic Im : HI), Rel B L xs C (xrow Ic 89 (Im 89)) → i ≤ nL (Im 89) → nL (Im 89) - i < f → ∃ v Jc Km, L_H_again_4 f t (nI i) Ic = some (v, Jc) ∧ L_Model_again_4 f t (nI i) Im = some (v, Km) ∧ Rel B L xs C (xrow Jc 89 (Km 89)) ∧ (∀ c, c ≠ 89 → Km c = Im c) ∧ (∀ c, c ≠ 1 → c ≠ 11 → c ≠ 12 → Jc c = Ic c) := by
  intro f
  induction f with
  | zero => intro i t Ic Im _ _ h; omega
  | succ f ih =>
    intro i t Ic Im hR hi hf
    obtain ⟨z1, z2, z3, z4, z5, z6⟩ := hR.za
    have r89 : xrow Ic 89 (Im 89) 89 = Im 89 := funext fun j => xr_at
    have hl := lk_nI hR
    have hm := mL_nI hR
    have h12 := hR.2.1.2.1.2
    rw [r89] at hl hm h12 z2 z6
    rw [xr_ne (by decide)] at hl z6
    unfold L_H_again_4 L_Model_again_4
    rw [hl, hm]
    by_cases e : i = nL (Im 89)
    · have hc : nI (nL (Im 89)) ≤ nI i := nI_le (by omega) (by omega)
      rw [if_pos hc, if_pos hc]
      exact ⟨t, Ic, Im, rfl, rfl, hR, fun _ _ => rfl, fun _ _ _ _ => rfl⟩
    · have hlt : i < nL (Im 89) := by omega
      have hc : ¬ nI (nL (Im 89)) ≤ nI i := nI_ge hlt (by omega)
      obtain ⟨g1, g2, g3, g4⟩ := z2.2.1 i hlt
      rw [xr_ne (by decide)] at g2 g3 g4
      rw [if_neg hc, if_neg hc]
      unfold M_Wall_drawn M_Model_drawn
      simp only [lt_def]
      rw [xu_rr, xu_rr, show (2 : Int32) = nI 2 from rfl, show (1 : Int32) = nI 1 from rfl, lk_ix, lk_ix, show (61 : Int32) + (3 : Int32) * nI i = nI (61 + 3 * i) by rw [show (61 : Int32) = nI 61 from rfl, show (3 : Int32) = nI 3 from rfl, pk_mul, nI_add], grd_t (bnd_nI (show i < 12 by omega) (by omega)), grd_t (bnd_nI (show 61 + 3 * i + 2 < 270 by omega) (by omega)), nI_clamp (show i < 2 ^ 31 by omega), nI_clamp (show 61 + 3 * i + 2 < 2 ^ 31 by omega), z6]
      generalize hz : Im 89 2 * 1103515245 + 12345 = z
      have hRz := seed_rel hR z
      rw [xu_qn (show (13 : Nat) ≠ 1 by decide), xu_rn (show 61 + 3 * i + 2 ≠ 2 by omega), show Ic 13 i = Im 89 (61 + 3 * i + 2) from g4, nI_add]
      have hnz : nL (xu Im 89 2 z 89) = nL (Im 89) := nL_c (xu_rn (by decide))
      by_cases hy : (ush z 8 - ush z 8 / 100 * 100) < Im 89 (61 + 3 * i + 2)
      · rw [if_pos hy, if_pos hy]
        obtain ⟨v, Jc, Km, k1, k2, k3, k4, k5⟩ := ih (i + 1) t (xu Ic 1 12 z) (xu Im 89 2 z) (by rw [mg_m, mg_c (by decide)]; exact hRz) (by rw [hnz]; omega) (by rw [hnz]; omega)
        exact ⟨v, Jc, Km, k1, k2, k3, fun c hc => by rw [k4 c hc, xu_ne hc], fun c c1 c2 c3 => by rw [k5 c c1 c2 c3, xu_ne c1]⟩
      · rw [if_neg hy, if_neg hy]
        unfold M_Wall_turnLook
        simp only [lt_def]
        rw [upper_m (by omega), lower_m (by omega), Option.bind_some, Option.bind_some, grd_t (bnd_nI (show i < 12 by omega) (by omega)), grd_t (bnd_nI (show 61 + 3 * i < 270 by omega) (by omega)), grd_t (bnd_nI (show 61 + 3 * i + 1 < 270 by omega) (by omega)), nI_clamp (show i < 2 ^ 31 by omega), nI_clamp (show 61 + 3 * i < 2 ^ 31 by omega), nI_clamp (show 61 + 3 * i + 1 < 2 ^ 31 by omega), Option.bind_some]
        rw [xu_qn (show (12 : Nat) ≠ 1 by decide), xu_qn (show (11 : Nat) ≠ 1 by decide), xu_rn (show 61 + 3 * i ≠ 2 by omega), xu_rn (show 61 + 3 * i + 1 ≠ 2 by omega)]
        have hRt := turn_rel hRz (l := i) (by rw [nL_c (D := Im 89) (show (xu (xu (xrow Ic 89 (Im 89)) 1 12 z) 89 2 z) 89 1 = Im 89 1 by rw [xu_rn (by decide), xu_qn (by decide), xr_at])]; exact hlt)
        rw [xu_qn (show (12 : Nat) ≠ 89 by decide), xu_qn (show (12 : Nat) ≠ 1 by decide), xr_ne (show (12 : Nat) ≠ 89 by decide), xu_qn (show (11 : Nat) ≠ 89 by decide), xu_qn (show (11 : Nat) ≠ 1 by decide), xr_ne (show (11 : Nat) ≠ 89 by decide)] at hRt
        have hg2 : Im 89 (61 + 3 * i) = Ic 11 i := g2.symm
        have hg3 : Im 89 (61 + 3 * i + 1) = Ic 12 i := g3.symm
        rw [hg2, hg3]
        have hn2 : nL (xu (xu (xu Im 89 2 z) 89 (61 + 3 * i) (Ic 12 i)) 89 (61 + 3 * i + 1) (Ic 11 i) 89) = nL (Im 89) := nL_c (by rw [xu_rn (by omega), xu_rn (by omega), xu_rn (by omega)])
        obtain ⟨v, Jc, Km, k1, k2, k3, k4, k5⟩ := ih (i + 1) (t + nI 1) (xu (xu (xu Ic 1 12 z) 11 i (Ic 12 i)) 12 i (Ic 11 i)) (xu (xu (xu Im 89 2 z) 89 (61 + 3 * i) (Ic 12 i)) 89 (61 + 3 * i + 1) (Ic 11 i)) (by
          rw [mg_m, mg_m, mg_m, mg_c (by decide), mg_c (by decide), mg_c (by decide), xu_comm (show (12 : Nat) ≠ 89 by decide), xu_comm (show (11 : Nat) ≠ 89 by decide)]
          exact hRt) (by rw [hn2]; omega) (by rw [hn2]; omega)
        exact ⟨v, Jc, Km, k1, k2, k3, fun c hc => by rw [k4 c hc, xu_ne hc, xu_ne hc, xu_ne hc], fun c c1 c2 c3 => by rw [k5 c c1 c2 c3, xu_ne c3, xu_ne c2, xu_ne c1]⟩
theorem ok_again (h : Rel B L xs C I) : OK1 B L xs C (M_H_again I) (fun J => M_Model_again J) := by
  have h12 := h.2.1.2.1.2
  unfold M_H_again M_Model_again
  simp only [bsome]
  obtain ⟨v, Jc, Km, k1, -, -, -, k5⟩ := again_sim (B := B) (L := L) (xs := xs) (C := C) 1000 0 0 I I (by rw [mg_self]; exact h) (by omega) (by omega)
  have hJ : ∀ c, c ≠ 1 → c ≠ 11 → c ≠ 12 → Jc c = I c := k5
  have h89 := hJ 89 (by decide) (by decide) (by decide)
  obtain ⟨v', Jc', Km', l1, l2, l3, l4, l5⟩ := again_sim (B := B) (L := L) (xs := xs) (C := C) 1000 0 0 I Jc (by rw [h89, mg_self]; exact h) (by omega) (by rw [h89]; omega)
  rw [k1] at l1
  have e := Option.some.inj l1
  have e1 : v = v' := congrArg (fun p => p.1) e
  have e2 : Jc = Jc' := congrArg (fun p => p.2) e
  subst e1
  subst e2
  refine ⟨v, Jc, Km', k1, l2, ?_⟩
  rw [mg_eq l4] at l3
  exact l3
end RA
