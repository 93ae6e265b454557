section RK
variable {B L : Nat} {xs : Nat → Int32} {C : HC} {I J K : HI} {D D' : Nat → Int32}
theorem bl_c {s : Nat} : ∀ k, (∀ l, l < k → uL D' l = uL D l ∧ lL D' l = lL D l) → bl D' s k = bl D s k := by
  intro k
  induction k with
  | zero => intro _; rfl
  | succ k ih =>
    intro h
    rw [bl_s, bl_s, (h k (by omega)).1, (h k (by omega)).2, ih (fun l hl => h l (by omega))]
theorem blw_c {s : Nat} (h12 : nL D ≤ 12) (h1 : D' 1 = D 1) (h2 : ∀ k, 61 ≤ k → k < 97 → D' k = D k) : blw D' s = blw D s := by
  unfold blw
  rw [nL_c h1]
  apply bl_c
  intro l hl
  unfold uL lL
  rw [h2 _ (by omega) (by omega), h2 _ (by omega) (by omega)]
  exact ⟨rfl, rfl⟩
theorem allb_c (h : Rel B L xs C I) (hJ : ∀ c, c ∉ SCR → J c = I c) {a v : Nat} (ha : a < 256) (hv : v < 8) : M_Wall_allBelowAre J (nI a) (nI v) = some (if dif (blw (I 89) v) a = 0 then 1 else 0) := by
  have l12 := h.2.1.2.1.2
  have n8 := h.n8
  have hb := blw_lt h.2.1 v
  have hl : J 1 5 = nI (nL (I 89)) := by rw [hJ 1 (by decide)]; exact lk_nI h
  have key := srch (fun f l => L_Wall_allBelowAre_2 (nI a) (nI v) J f (nI l)) (nL (I 89)) (fun l => uL (I 89) l = v ∧ a.testBit (lL (I 89) l) = false) (fun _ => 0) 1 ?_ ?_ ?_ 1000 0 (by omega) (by omega)
  · unfold M_Wall_allBelowAre
    rcases key with ⟨j, j1, j2, ⟨j3, j3'⟩, j4, j5⟩ | ⟨j1, j2⟩
    · rw [show L_Wall_allBelowAre_2 (nI a) (nI v) J 1000 0 = some 0 from j5, Option.bind_some, if_pos rfl, if_neg]
      rw [dif0 ha hb]
      intro hs
      have := hs (lL (I 89) j) ((blw_t v _).mpr ⟨j, j2, j3, rfl⟩)
      rw [j3'] at this; cases this
    · rw [show L_Wall_allBelowAre_2 (nI a) (nI v) J 1000 0 = some 1 from j2, Option.bind_some, if_neg (by decide), if_pos]
      rw [dif0 ha hb]
      intro j hj
      obtain ⟨l, l1, l2, l3⟩ := (blw_t v j).mp hj
      cases e : a.testBit j
      · exact absurd ⟨l2, by rw [l3]; exact e⟩ (j1 l (by omega) l1)
      · rfl
  · intro f l hlt hp
    obtain ⟨a1, a2, a3, a4, a5⟩ := lk_c h hJ hlt
    show L_Wall_allBelowAre_2 (nI a) (nI v) J (f + 1) (nI l) = _
    rw [L_Wall_allBelowAre_2, hl, if_neg (nI_ge hlt (by omega)), grd_t (bnd_nI (by omega) (by omega)), nI_clamp (by omega), a1, a2, nI_1, mk_bit a ha _ (by omega)]
    by_cases e : uL (I 89) l = v
    · have e2 : a.testBit (lL (I 89) l) = true := by
        cases e2 : a.testBit (lL (I 89) l)
        · exact absurd ⟨e, e2⟩ hp
        · rfl
      rw [if_pos (by rw [e]), e2, if_pos rfl, if_neg one0]
    · rw [if_neg (fun e' => e ((nI_eq (by omega) (by omega)).mp e'))]
  · intro f l hlt hp
    obtain ⟨a1, a2, a3, a4, a5⟩ := lk_c h hJ hlt
    show L_Wall_allBelowAre_2 (nI a) (nI v) J (f + 1) (nI l) = _
    rw [L_Wall_allBelowAre_2, hl, if_neg (nI_ge hlt (by omega)), grd_t (bnd_nI (by omega) (by omega)), nI_clamp (by omega), a1, a2, nI_1, mk_bit a ha _ (by omega), if_pos (by rw [hp.1]), hp.2, if_neg (show ¬ (false = true) by decide), if_pos rfl]
  · intro f
    show L_Wall_allBelowAre_2 (nI a) (nI v) J (f + 1) (nI (nL (I 89))) = _
    rw [L_Wall_allBelowAre_2, hl, if_pos (nI_le (Nat.le_refl _) (by omega))]
theorem check_sim (h : Rel B L xs C I) (k0 : K 89 0 = nI (nS (I 89))) (kw : ∀ j, j < nW (I 89) → K 89 (99 + j) = I 31 j) (k93 : ∀ s, s < nS (I 89) → K 93 s = nI (blw (I 89) s)) : ∀ f i a, a < 2 ^ nS (I 89) → pc a = i → i ≤ nW (I 89) → i ≤ nS (I 89) → nW (I 89) - i < f → ∃ t r, L_Wall_faultOfWaiting_4 I f (nI a) (nI i) = some (t, nI r) ∧ L_Model_check_22 (nI (nW (I 89))) K f (nI a) (nI i) = some (nI r) ∧ ((t = 0 ∧ r < nW (I 89)) ∨ (t = 1 ∧ r = nW (I 89))) ∧ r ≤ nS (I 89) := by
  have n8 := h.n8
  obtain ⟨z1, z2, z3, z4, z5, z6⟩ := h.za
  obtain ⟨⟨w1, w2⟩, w3, w4⟩ := z4
  have hw : I 1 11 = nI (nW (I 89)) := by rw [w4]; exact w1
  have h256 := lt_p2 (nS (I 89)) (by omega)
  intro f
  induction f with
  | zero => intro i a _ _ _ _ h; omega
  | succ f ih =>
    intro i a ha hp hi hin hf
    have ha' : a < 256 := by omega
    rw [L_Wall_faultOfWaiting_4, L_Model_check_22, hw, k0]
    by_cases e : i = nW (I 89)
    · have hc : nI (nW (I 89)) ≤ nI i := nI_le (by omega) (by omega)
      rw [if_pos hc, if_pos hc]
      exact ⟨1, i, rfl, rfl, Or.inr ⟨rfl, e⟩, hin⟩
    · have hlt : i < nW (I 89) := by omega
      have hc : ¬ nI (nW (I 89)) ≤ nI i := nI_ge hlt (by omega)
      rw [if_neg hc, if_neg hc, grd_t (bnd_nI (show i < 20 by omega) (by omega)), nI_clamp (show i < 2 ^ 31 by omega)]
      by_cases en : i = nS (I 89)
      · rw [if_pos (show nI (nS (I 89)) ≤ nI i from nI_le (by omega) (by omega))]
        refine ⟨0, i, ?_, rfl, Or.inl ⟨rfl, hlt⟩, hin⟩
        rcases ix_case (I 31 i) (nS (I 89)) (by omega) with ⟨v, hv, ev⟩ | hx
        · rw [ev, hasS_y (st_nI h) (by omega) hv, if_neg one0, mk_bit a ha' v (by omega), pc_full _ (by omega) a ha (by omega) v hv, if_pos rfl, if_neg one0]
        · rw [hasS_n (st_nI h) (by omega) hx, if_pos rfl]
      · have hc2 : ¬ nI (nS (I 89)) ≤ nI i := nI_ge (by omega) (by omega)
        rw [if_neg hc2, show (99 : Int32) + nI i = nI (99 + i) from nI_add 99 i, grd_t (bnd_nI (show 99 + i < 270 by omega) (by omega)), nI_clamp (show 99 + i < 2 ^ 31 by omega), kw i hlt]
        rcases ix_case (I 31 i) (nS (I 89)) (by omega) with ⟨v, hv, ev⟩ | hx
        · rw [ev, hasS_y (st_nI h) (by omega) hv, if_neg one0, isS_y (I := K) k0 (by omega) hv, if_neg one0, mk_bit a ha' v (by omega), may_m h.2.1 hv ha' (k93 v hv), Option.bind_some, allb_c h (fun _ _ => rfl) ha' (by omega), Option.bind_some]
          unfold may
          cases eb : a.testBit v
          · rw [if_neg (show ¬ (false = true) by decide), if_pos rfl]
            by_cases ed : dif (blw (I 89) v) a = 0
            · rw [if_pos ed, if_neg one0]
              simp only [ed, lt_def, decide_true, Bool.not_false, Bool.and_self, if_true, if_neg one0]
              rw [mk_set a ha' v (by omega), nI_1]
              exact ih (i + 1) (a ||| 2 ^ v) (or_lt ha hv) (by rw [pc_set a ha' v (by omega) eb]; omega) (by omega) (by omega) (by omega)
            · rw [if_neg ed, if_pos rfl]
              refine ⟨0, i, rfl, ?_, Or.inl ⟨rfl, hlt⟩, hin⟩
              simp [ed]
          · rw [if_pos rfl, if_neg one0]
            refine ⟨0, i, rfl, ?_, Or.inl ⟨rfl, hlt⟩, hin⟩
            simp
        · rw [hasS_n (st_nI h) (by omega) hx, if_pos rfl, isS_n (I := K) k0 (by omega) hx, if_pos rfl]
          exact ⟨0, i, rfl, rfl, Or.inl ⟨rfl, hlt⟩, hin⟩
theorem wait0_rel (h : Rel B L xs C I) : Rel B L xs C (xu (xu I 1 11 0) 89 4 0) := by
  have e : ∀ k, k ≠ 4 → xu (xu I 1 11 0) 89 4 0 89 k = I 89 k := fun k h1 => by rw [xu_rn h1, xu_qn (by decide)]
  refine h.upW ?_ ?_ ?_ (fun k h1 h2 => e k h1) ?_ ?_
  · intro c c1 c2 c3 c4
    rw [xu_ne c3, xu_ne c1]
  · rw [xu_qn (by decide), xu_qn (by decide)]
  · rw [xu_qn (by decide), xu_qn (by decide)]
  · intro k hk
    rw [xu_qn (by decide), xu_rn hk]
  · have en : nW (xu (xu I 1 11 0) 89 4 0 89) = 0 := nW_v xu_rr (by omega)
    refine ⟨⟨by rw [en, xu_rr]; rfl, by omega⟩, fun j hj => by omega, by rw [xu_rr, xu_qn (by decide), xu_rr]⟩
theorem ok_check (h : Rel B L xs C I) : OK1 B L xs C (M_H_check I) (fun J => M_Model_check J) := by
  have n8 := h.n8
  have hR := wait0_rel h
  obtain ⟨z1, z2, z3, z4, z5, z6⟩ := h.za
  obtain ⟨⟨w1, w2⟩, w3, w4⟩ := z4
  have hw : I 1 11 = nI (nW (I 89)) := by rw [w4]; exact w1
  have e : ∀ k, k ≠ 4 → xu (xu I 1 11 0) 89 4 0 89 k = I 89 k := fun k h1 => by rw [xu_rn h1, xu_qn (by decide)]
  have n0 : nS (xu (xu I 1 11 0) 89 4 0 89) = nS (I 89) := nS_c (e 0 (by decide))
  obtain ⟨K, k1, k2, k3⟩ := below_m (J := xu (xu I 1 11 0) 89 4 0) hR.2.1
  rw [n0] at k3
  have k89 := k2 89 (by decide)
  have kz : K 89 0 = nI (nS (I 89)) := by rw [k89, e 0 (by decide)]; exact mS_nI h
  obtain ⟨t, r, c1, c2, c3, c4⟩ := check_sim h (K := K) kz (fun j hj => by rw [k89, e _ (by omega)]; exact (w3 j hj).symm) (fun s hs => by
    rw [k3 s hs, blw_c (D := I 89) h.2.1.2.1.2 (e 1 (by decide)) (fun k _ _ => e k (by omega))]) 1000 0 0 (Nat.two_pow_pos _) (by decide) (by omega) (by omega) (by omega)
  have hKR : Rel B L xs C K := hR.fr (W := [93]) (fun c hc => k2 c (by simpa using hc)) (by decide) (by rw [k2 88 (by decide)]) (by rw [k2 88 (by decide)])
  unfold M_H_check M_Model_check M_Wall_faultOfWaiting
  simp only [lt_def]
  rw [show (0 : Int32) = nI 0 from rfl, c1, Option.bind_some]
  have hm : ∀ v, (if nI r = nI (nW (I 89)) then (if nI r = K 89 0 then some ((0 : Int32), K) else some (1 + nI r, K)) else some (1 + nI r, K)) = some (v, K) → (fun J => Option.bind (M_Model_findBelow (xu J 89 4 (nI 0))) fun p2 => Option.bind (L_Model_check_22 (J 89 4) p2 1000 (nI 0) (nI 0)) fun p3 => if p3 = J 89 4 then (if p3 = p2 89 0 then some (nI 0, p2) else some (1 + p3, p2)) else some (1 + p3, p2)) (xu I 1 11 (nI 0)) = some (v, K) := by
    intro v hv
    show Option.bind (M_Model_findBelow (xu (xu I 1 11 0) 89 4 0)) _ = _
    rw [k1, Option.bind_some, xu_qn (show (89 : Nat) ≠ 1 by decide), w1, c2, Option.bind_some]
    exact hv
  rcases c3 with ⟨rfl, c5⟩ | ⟨rfl, c5⟩
  · refine ⟨nI r + 1, xu I 1 11 0, K, ?_, hm _ ?_, hKR⟩
    · simp only [if_pos rfl, Option.bind_some]; rfl
    · rw [if_neg (fun e' => by have := (nI_eq (by omega) (by omega)).mp e'; omega), Int32.add_comm]
  · subst c5
    by_cases eq : nW (I 89) = nS (I 89)
    · refine ⟨0, xu I 1 11 0, K, ?_, hm _ ?_, hKR⟩
      · simp only [if_neg (show ¬ (1 : Nat) = 0 by decide)]
        rw [hw, st_nI h, if_pos (nI_le (by omega) (by omega)), Option.bind_some]; rfl
      · rw [if_pos rfl, kz, if_pos (by rw [eq])]
    · refine ⟨nI (nW (I 89)) + 1, xu I 1 11 0, K, ?_, hm _ ?_, hKR⟩
      · simp only [if_neg (show ¬ (1 : Nat) = 0 by decide)]
        rw [hw, st_nI h, if_neg (nI_ge (by omega) (by omega)), Option.bind_some]; rfl
      · rw [if_pos rfl, kz, if_neg (fun e' => eq ((nI_eq (by omega) (by omega)).mp e')), Int32.add_comm]
end RK
