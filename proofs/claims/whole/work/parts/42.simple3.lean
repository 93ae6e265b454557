section RV
variable {B L : Nat} {xs : Nat → Int32} {C : HC} {I J K : HI} {D : Nat → Int32}
theorem e89 {k : Nat} {v : Int32} : xu I 87 k v 89 = I 89 := xu_ne (by decide)
theorem e88 {k : Nat} {v : Int32} : xu I 87 k v 88 = I 88 := xu_ne (by decide)
theorem inI_y {a n : Nat} (h : a < n) (hn : n < 2 ^ 31) : M_Model_in (nI a).toInt64 (Int64.ofNat 0) (nI n - 1).toInt64 = 1 := by rw [inI _ hn, if_pos]; rw [nI_toInt (by omega)]; omega
theorem ok_count (h : Rel B L xs C I) (x : Int32) : OK1 B L xs C (M_H_count I x) (fun J => M_Model_count J x) := by
  obtain ⟨q1, q2, q3, q4, q5⟩ := h.2.2.1.1
  obtain ⟨t, t1, t2, t3, t4⟩ := h.2.2.2.2.2.2.1
  unfold M_H_count M_Model_count
  simp only [bsome]
  by_cases h0 : x = 0
  · simp only [if_pos h0]; exact ok_same h (by rw [q1]) rfl
  simp only [if_neg h0]
  by_cases h1 : x = 1
  · simp only [if_pos h1]; exact ok_same h (by rw [q2]) rfl
  simp only [if_neg h1]
  by_cases h2 : x = 2
  · simp only [if_pos h2]; exact ok_same h (by rw [q3]) rfl
  simp only [if_neg h2]
  by_cases h3 : x = 3
  · simp only [if_pos h3]; exact ok_same h (by rw [q4]) rfl
  simp only [if_neg h3]
  by_cases h4 : x = 4
  · simp only [if_pos h4]; exact ok_same h (by rw [t2]) (by rw [t3])
  simp only [if_neg h4]
  by_cases h5 : x = 5
  · simp only [if_pos h5]; exact ok_same h (by rw [q5]) rfl
  simp only [if_neg h5]
  exact err_ok0 1 (by decide) (by decide) h rfl rfl
theorem ok_told (h : Rel B L xs C I) (x : Int32) : OK1 B L xs C (M_H_told I x) (fun J => M_Model_told J x) := by
  unfold M_H_told M_Model_told
  simp only [bsome, in_nat x (a := 1) (b := 5) (by decide) (by decide)]
  by_cases hx : ((1 : Nat) : Int) ≤ x.toInt ∧ x.toInt ≤ ((5 : Nat) : Int)
  · obtain ⟨a, ha, rfl⟩ : ∃ a : Nat, (1 ≤ a ∧ a ≤ 5) ∧ x = nI a := ⟨x.toInt.toNat, by omega, i_nI (by omega)⟩
    simp only [if_pos hx, if_neg one0]
    refine ok_same h (v := I 87 a) ?_ ?_
    · rw [if_neg (n_nlt 1 1 (by omega) (by omega)), if_pos (n_le 5 5 (by omega)), grd_t (bnd_nI (by omega) (by omega)), nI_clamp (by omega)]
    · rw [grd_t (bnd_nI (by omega) (by omega)), nI_clamp (by omega), h.2.2.2.2.2.1 a (by omega)]
  · simp only [if_neg hx, if_pos rfl]
    refine err_ok0 1 (by decide) (by decide) h ?_ rfl
    by_cases h1 : x < 1
    · rw [if_pos h1]; rfl
    · have h5 : ¬ x ≤ 5 := by
        rw [i_lt] at h1
        rw [i_le]
        have a : (1 : Int32).toInt = 1 := rfl
        have b : (5 : Int32).toInt = 5 := rfl
        omega
      rw [if_neg h1, if_neg h5]; rfl
theorem ok_trace (h : Rel B L xs C I) (x : Int32) : OK1 B L xs C (M_H_trace I x) (fun J => M_Model_trace J x) := by
  obtain ⟨t, t1, t2, t3, t4⟩ := h.2.2.2.2.2.2.1
  unfold M_H_trace M_Model_trace
  simp only [bsome]
  rcases ix_case x t (by omega) with ⟨a, ha, rfl⟩ | hx
  · refine ok_same h (v := I 102 a) ?_ ?_
    · rw [if_neg (nI_pos (by omega)), t2, if_neg (nI_ge ha (by omega)), if_pos (n_lt 40 40 (by omega)), nI_1, grd_t (bnd_nI (by omega) (by omega)), nI_clamp (by omega), t4 a ha]
    · show (if M_Model_in _ _ (I 88 21 - 1).toInt64 = 0 then _ else _) = _
      rw [t3, inI_y ha (by omega), if_neg one0, grd_t (bnd_nI (by omega) (by omega)), nI_clamp (by omega)]
  · refine err_ok0 2 (by decide) (by decide) h ?_ ?_
    · by_cases h1 : x < 0
      · rw [if_pos h1]; rfl
      · have h5 : nI t ≤ x := by
          rw [i_lt] at h1
          rw [i_le, nI_toInt (by omega)]
          have a : (0 : Int32).toInt = 0 := rfl
          omega
        rw [if_neg h1, t2, if_pos h5]; rfl
    · show (if M_Model_in _ _ (xu I 87 2 (I 87 2 + 1) 88 21 - 1).toInt64 = 0 then _ else _) = _
      rw [e88, t3, inI _ (by omega), if_neg hx, if_pos rfl]; rfl
theorem ok_law (h : Rel B L xs C I) (x a b c d : Int32) : OK1 B L xs C (M_H_law I x a b c d) (fun J => M_Model_law J x a b c d) := by
  obtain ⟨z1, z2, z3, z4, z5, z6⟩ := h.za
  unfold M_H_law M_Model_law
  simp only [bsome, in_nat x (a := 0) (b := 1) (by decide) (by decide), within_eq]
  by_cases hx : 0 ≤ x.toInt ∧ x.toInt ≤ 1
  · obtain ⟨u, hu, rfl⟩ : ∃ a : Nat, a < 2 ∧ x = nI a := ⟨x.toInt.toNat, by omega, i_nI (by omega)⟩
    have hx' : ((0 : Nat) : Int) ≤ (nI u).toInt ∧ (nI u).toInt ≤ ((1 : Nat) : Int) := hx
    have hx1 : 0 ≤ (nI u).toInt ∧ (nI u).toInt ≤ (1 : Int32).toInt := hx
    simp only [if_pos hx', if_pos hx1, if_neg one0]
    have hw : WT (I 89) u := by
      rcases (show u = 0 ∨ u = 1 by omega) with rfl | rfl
      · exact z5.1
      · exact z5.2.1
    obtain ⟨J, j1, j2⟩ := givenBy_c (I := I) (D := I 89) (a := a) (b := b) (c := c) (d := d) hu hw (fun _ => z5.2.2.1) (fun _ => z5.2.2.2)
    have hJ : J 89 = I 89 := j2 89 (by decide)
    obtain ⟨K, k1⟩ := gives_m (I := J) (u := u) (a := a) (b := b) (c := c) (d := d) hu (by rw [hJ]; exact hw)
    rw [hJ] at k1
    refine ⟨_, J, K, j1, k1, ?_⟩
    have r1 : Rel B L xs C J := h.fr j2 (by decide) (by rw [j2 88 (by decide)]) (by rw [j2 88 (by decide)])
    exact r1.fr (w_Model_gives k1) (by decide) (v_Model_gives k1 2 (by decide)) (v_Model_gives k1 21 (by decide))
  · have hx' : ¬ (((0 : Nat) : Int) ≤ x.toInt ∧ x.toInt ≤ ((1 : Nat) : Int)) := hx
    have hx1 : ¬ (0 ≤ x.toInt ∧ x.toInt ≤ (1 : Int32).toInt) := hx
    simp only [if_neg hx', if_neg hx1, if_pos rfl]
    exact err_ok0 1 (by decide) (by decide) h rfl rfl
theorem ok_see (h : Rel B L xs C I) (x y : Int32) : OK1 B L xs C (M_H_see I x y) (fun J => M_Model_see J x y) := by
  obtain ⟨z1, z2, z3, z4, z5, z6⟩ := h.za
  have h12 := z2.1.2
  unfold M_H_see M_Model_see
  simp only [bsome, in_nat y (a := 1) (b := 99) (by decide) (by decide), lt_def]
  rcases ix_case x (nL (I 89)) (by omega) with ⟨l, hl, rfl⟩ | hx
  · rw [hasL_y (lk_nI h) (by omega) hl, if_neg one0]
    by_cases hy : ((1 : Nat) : Int) ≤ y.toInt ∧ y.toInt ≤ ((99 : Nat) : Int)
    · simp only [if_pos hy, if_neg one0]
      obtain ⟨a, ha, rfl⟩ : ∃ a : Nat, (1 ≤ a ∧ a ≤ 99) ∧ y = nI a := ⟨y.toInt.toNat, by omega, i_nI (by omega)⟩
      obtain ⟨hwl, y1, y2, y3⟩ := z2.2.1 l hl
      refine ⟨I 13 l, xu I 13 l (nI a), xu (xu I 13 l (nI a)) 89 (61 + 3 * l + 2) (nI a), ?_, ?_, ?_⟩
      · rw [if_neg (n_nlt 1 1 (by omega) (by omega)), if_pos (n_le 99 99 (by omega)), grd_t (bnd_nI (by omega) (by omega)), nI_clamp (by omega)]
      · show (if M_Model_isLook (xu I 13 l (nI a)) (nI l) = 0 then _ else _) = _
        rw [isL_y (n := nL (I 89)) (by rw [xu_qn (by decide)]; exact mL_nI h) (by omega) hl, if_neg one0, show (2 : Int32) = nI 2 from rfl, lk_ix, grd_t (bnd_nI (by omega) (by omega)), nI_clamp (by omega), xu_qn (by decide), ← y3]
      · have e : ∀ k, k ≠ 61 + 3 * l + 2 → xu (xu I 13 l (nI a)) 89 (61 + 3 * l + 2) (nI a) 89 k = I 89 k := fun k hk => by rw [xu_rn hk, xu_qn (by decide)]
        have ec : ∀ c, c ≠ 13 → c ≠ 89 → xu (xu I 13 l (nI a)) 89 (61 + 3 * l + 2) (nI a) c = I c := fun c h1 h2 => by rw [xu_ne h2, xu_ne h1]
        refine h.upL (fun c _ _ _ c2 c3 _ => ec c c2 c3) (by rw [ec _ (by decide) (by decide)]) (by rw [ec _ (by decide) (by decide)]) (fun k _ hk => e k (by omega)) (fun k _ => by rw [ec _ (by decide) (by decide)]) ?_
        have en := nL_c (e 1 (by omega))
        have e0 := nS_c (e 0 (by omega))
        refine ⟨⟨by rw [en, e _ (by omega)]; exact z2.1.1, by omega⟩, ?_, by rw [ec _ (by decide) (by decide), e _ (by omega)]; exact z2.2.2⟩
        rw [en]
        intro j hj
        obtain ⟨g1, g2, g3, g4⟩ := z2.2.1 j hj
        rw [ec (1 + 10) (by decide) (by decide), ec (1 + 11) (by decide) (by decide), e _ (by omega), e _ (by omega)]
        by_cases ej : j = l
        · subst ej
          refine ⟨?_, g2, g3, ?_⟩
          · obtain ⟨u, w, b, f1, f2, f3, f4, f5, f6, f7, f8⟩ := g1
            exact ⟨u, w, a, by omega, by omega, f3, ha.1, ha.2, by rw [e _ (by omega)]; exact f6, by rw [e _ (by omega)]; exact f7, by rw [xu_rr]⟩
          · rw [xu_rr, xu_qn (by decide), xu_rr]
        · refine ⟨g1.c (by omega) (fun k hk => e _ (by omega)), g2, g3, ?_⟩
          rw [e _ (by omega), xu_qn (by decide), xu_rn (by omega)]
          exact g4
    · simp only [if_neg hy, if_pos rfl]
      refine err_ok0 1 (by decide) (by decide) h ?_ ?_
      · by_cases h1 : y < 1
        · rw [if_pos h1]; rfl
        · have h5 : ¬ y ≤ 99 := by
            rw [i_lt] at h1
            rw [i_le]
            have a : (1 : Int32).toInt = 1 := rfl
            have b : (99 : Int32).toInt = 99 := rfl
            omega
          rw [if_neg h1, if_neg h5]; rfl
      · rw [isL_y (n := nL (I 89)) (by rw [e89]; exact mL_nI h) (by omega) hl, if_neg one0]; rfl
  · refine err_ok0 1 (by decide) (by decide) h ?_ ?_
    · rw [hasL_n (lk_nI h) (by omega) hx, if_pos rfl]; rfl
    · show (if M_Model_isLook _ x = 0 then _ else _) = _
      rw [isL_n (n := nL (I 89)) (by rw [e89]; exact mL_nI h) (by omega) hx, if_pos rfl]; rfl
theorem told_eq (h : Rel B L xs C I) (x y w : Int32) : ∀ J : HI, J 89 = I 89 → M_Model_isTold J x y w = M_Wall_isLook I x y w := by
  have n8 := h.n8
  intro J hJ
  unfold M_Model_isTold M_Wall_isLook M_Wall_areTwo
  rw [in_nat w (a := 1) (b := 99) (by decide) (by decide)]
  have m0 : J 89 0 = nI (nS (I 89)) := by rw [hJ]; exact mS_nI h
  rcases ix_case x (nS (I 89)) (by omega) with ⟨s, hs, rfl⟩ | hx
  · rw [hasS_y (st_nI h) (by omega) hs, isS_y m0 (by omega) hs, if_neg one0, if_neg one0]
    rcases ix_case y (nS (I 89)) (by omega) with ⟨t, ht, rfl⟩ | hy
    · rw [hasS_y (st_nI h) (by omega) ht, isS_y m0 (by omega) ht, if_neg one0, if_neg one0]
      by_cases e : nI s = nI t
      · rw [if_pos e, if_pos e, if_pos rfl]
      · rw [if_neg e, if_neg e, if_neg one0]
        have a : (1 : Int32).toInt = 1 := rfl
        have b : (99 : Int32).toInt = 99 := rfl
        simp only [i_lt, a, b]
        by_cases hw : ((1 : Nat) : Int) ≤ w.toInt ∧ w.toInt ≤ ((99 : Nat) : Int)
        · rw [if_pos hw, if_neg one0, if_neg (by omega), if_neg (by omega)]
        · rw [if_neg hw, if_pos rfl]
          by_cases h1 : w.toInt < 1
          · rw [if_pos h1]
          · rw [if_neg h1, if_pos (by omega)]
    · rw [hasS_n (st_nI h) (by omega) hy, isS_n m0 (by omega) hy, if_pos rfl, if_pos rfl, if_pos rfl]
  · rw [hasS_n (st_nI h) (by omega) hx, isS_n m0 (by omega) hx, if_pos rfl, if_pos rfl, if_pos rfl]
theorem told_val (h : Rel B L xs C I) {x y w : Int32} : M_Wall_isLook I x y w ≠ 0 → ∃ s t a, s < nS (I 89) ∧ t < nS (I 89) ∧ s ≠ t ∧ 1 ≤ a ∧ a ≤ 99 ∧ x = nI s ∧ y = nI t ∧ w = nI a := by
  have n8 := h.n8
  unfold M_Wall_isLook M_Wall_areTwo
  rcases ix_case x (nS (I 89)) (by omega) with ⟨s, hs, rfl⟩ | hx
  · rw [hasS_y (st_nI h) (by omega) hs, if_neg one0]
    rcases ix_case y (nS (I 89)) (by omega) with ⟨t, ht, rfl⟩ | hy
    · rw [hasS_y (st_nI h) (by omega) ht, if_neg one0]
      by_cases e : nI s = nI t
      · rw [if_pos e, if_pos rfl]; exact fun h => absurd rfl h
      · rw [if_neg e, if_neg one0]
        have a : (1 : Int32).toInt = 1 := rfl
        have b : (99 : Int32).toInt = 99 := rfl
        simp only [i_lt, a, b]
        by_cases h1 : w.toInt < 1
        · rw [if_pos h1]; exact fun h => absurd rfl h
        · rw [if_neg h1]
          by_cases h2 : 99 < w.toInt
          · rw [if_pos h2]; exact fun h => absurd rfl h
          · exact fun _ => ⟨s, t, w.toInt.toNat, hs, ht, fun e' => e (by rw [e']), by omega, by omega, rfl, rfl, i_nI (by omega)⟩
    · rw [hasS_n (st_nI h) (by omega) hy, if_pos rfl, if_pos rfl]; exact fun h => absurd rfl h
  · rw [hasS_n (st_nI h) (by omega) hx, if_pos rfl, if_pos rfl]; exact fun h => absurd rfl h
theorem add_c {n : Nat} {x y w : Int32} (h5 : I 1 5 = nI n) (hn : n < 12) : M_Wall_addLook I x y w = some (nI n, xu (xu (xu (xu I 11 n x) 12 n y) 13 n w) 1 5 (nI (n + 1))) := by
  unfold M_Wall_addLook
  simp only [lt_def]
  rw [h5, grd_t (bnd_nI (by omega) (by omega)), nI_clamp (by omega), xu_qn (by decide), xu_qn (by decide), xu_qn (by decide), h5, nI_1]
theorem add_m {n : Nat} {x y w : Int32} (h5 : I 89 1 = nI n) (hn : n < 12) : M_Model_lookComes I x y w = some (nI n, xu (xu (xu (xu I 89 (61 + 3 * n) x) 89 (61 + 3 * n + 1) y) 89 (61 + 3 * n + 2) w) 89 1 (nI (n + 1))) := by
  unfold M_Model_lookComes
  simp only [lt_def]
  rw [h5, show (61 : Int32) + 3 * nI n = nI (61 + 3 * n) from by rw [show (61 : Int32) = nI 61 from rfl, show (3 : Int32) = nI 3 from rfl, pk_mul, nI_add], grd_t (bnd_nI (by omega) (by omega)), nI_clamp (by omega), show nI (61 + 3 * n) + 1 = nI (61 + 3 * n + 1) from nI_1 _, grd_t (bnd_nI (by omega) (by omega)), nI_clamp (by omega), show nI (61 + 3 * n) + 2 = nI (61 + 3 * n + 2) from nI_add _ 2, grd_t (bnd_nI (by omega) (by omega)), nI_clamp (by omega), xu_rn (by omega), xu_rn (by omega), xu_rn (by omega), h5, nI_1]
theorem add_rel (h : Rel B L xs C I) {n s t a : Nat} (hn : nL (I 89) = n) (h20 : n < 12) (g1 : s < nS (I 89)) (g2 : t < nS (I 89)) (g3 : s ≠ t) (g4 : 1 ≤ a) (g5 : a ≤ 99) : Rel B L xs C (xu (xu (xu (xu (xu (xu (xu (xu I 11 n (nI s)) 12 n (nI t)) 13 n (nI a)) 1 5 (nI (n + 1))) 89 (61 + 3 * n) (nI s)) 89 (61 + 3 * n + 1) (nI t)) 89 (61 + 3 * n + 2) (nI a)) 89 1 (nI (n + 1))) := by
  obtain ⟨z1, z2, z3, z4, z5, z6⟩ := h.za
  subst hn
  generalize hn : nL (I 89) = n at *
  have e : ∀ k, k ≠ 1 → k ≠ 61 + 3 * n → k ≠ 61 + 3 * n + 1 → k ≠ 61 + 3 * n + 2 → xu (xu (xu (xu (xu (xu (xu (xu I 11 n (nI s)) 12 n (nI t)) 13 n (nI a)) 1 5 (nI (n + 1))) 89 (61 + 3 * n) (nI s)) 89 (61 + 3 * n + 1) (nI t)) 89 (61 + 3 * n + 2) (nI a)) 89 1 (nI (n + 1)) 89 k = I 89 k := fun k k1 k2 k3 k4 => by
    rw [xu_rn k1, xu_rn k4, xu_rn k3, xu_rn k2, xu_qn (by decide), xu_qn (by decide), xu_qn (by decide), xu_qn (by decide)]
  have ec : ∀ c, c ≠ 1 → c ≠ 11 → c ≠ 12 → c ≠ 13 → c ≠ 89 → xu (xu (xu (xu (xu (xu (xu (xu I 11 n (nI s)) 12 n (nI t)) 13 n (nI a)) 1 5 (nI (n + 1))) 89 (61 + 3 * n) (nI s)) 89 (61 + 3 * n + 1) (nI t)) 89 (61 + 3 * n + 2) (nI a)) 89 1 (nI (n + 1)) c = I c := fun c c1 c2 c3 c4 c5 => by
    rw [xu_ne c5, xu_ne c5, xu_ne c5, xu_ne c5, xu_ne c1, xu_ne c4, xu_ne c3, xu_ne c2]
  refine h.upL (fun c c1 c2 c3 c4 c5 _ => ec c c1 c2 c3 c4 c5) (by rw [ec 88 (by decide) (by decide) (by decide) (by decide) (by decide)]) (by rw [ec 88 (by decide) (by decide) (by decide) (by decide) (by decide)]) (fun k k1 hk => e k k1 (by omega) (by omega) (by omega)) ?_ ?_
  · intro k hk
    rw [xu_qn (by decide), xu_qn (by decide), xu_qn (by decide), xu_qn (by decide), xu_rn hk, xu_qn (by decide), xu_qn (by decide), xu_qn (by decide)]
  · generalize hK : xu (xu (xu (xu (xu (xu (xu (xu I 11 n (nI s)) 12 n (nI t)) 13 n (nI a)) 1 5 (nI (n + 1))) 89 (61 + 3 * n) (nI s)) 89 (61 + 3 * n + 1) (nI t)) 89 (61 + 3 * n + 2) (nI a)) 89 1 (nI (n + 1)) = K at *
    have v1 : K 89 1 = nI (n + 1) := by rw [← hK, xu_rr]
    have v2 : K 89 (61 + 3 * n) = nI s := by rw [← hK, xu_rn (by omega), xu_rn (by omega), xu_rn (by omega), xu_rr]
    have v3 : K 89 (61 + 3 * n + 1) = nI t := by rw [← hK, xu_rn (by omega), xu_rn (by omega), xu_rr]
    have v4 : K 89 (61 + 3 * n + 2) = nI a := by rw [← hK, xu_rn (by omega), xu_rr]
    have en : nL (K 89) = n + 1 := nL_v v1 (by omega)
    have e0 := nS_c (e 0 (by omega) (by omega) (by omega) (by omega))
    refine ⟨⟨by rw [en, v1], by omega⟩, ?_, ?_⟩
    · rw [en]
      intro j hj
      by_cases ej : j = n
      · subst ej
        refine ⟨⟨s, t, a, by omega, by omega, g3, g4, g5, v2, v3, v4⟩, ?_, ?_, ?_⟩
        · rw [v2, ← hK]
          rw [xu_qn (by decide), xu_qn (by decide), xu_qn (by decide), xu_qn (by decide), xu_qn (by decide), xu_qn (by decide), xu_qn (by decide), xu_rr]
        · rw [v3, ← hK]
          rw [xu_qn (by decide), xu_qn (by decide), xu_qn (by decide), xu_qn (by decide), xu_qn (by decide), xu_qn (by decide), xu_rr]
        · rw [v4, ← hK]
          rw [xu_qn (by decide), xu_qn (by decide), xu_qn (by decide), xu_qn (by decide), xu_qn (by decide), xu_rr]
      · obtain ⟨f1, f2, f3, f4⟩ := z2.2.1 j (by omega)
        rw [e _ (by omega) (by omega) (by omega) (by omega), e _ (by omega) (by omega) (by omega) (by omega), e _ (by omega) (by omega) (by omega) (by omega)]
        refine ⟨f1.c (by omega) (fun k hk => e _ (by omega) (by omega) (by omega) (by omega)), ?_, ?_, ?_⟩
        · rw [← f2, ← hK]
          rw [xu_qn (by decide), xu_qn (by decide), xu_qn (by decide), xu_qn (by decide), xu_qn (by decide), xu_qn (by decide), xu_qn (by decide), xu_rn ej]
        · rw [← f3, ← hK]
          rw [xu_qn (by decide), xu_qn (by decide), xu_qn (by decide), xu_qn (by decide), xu_qn (by decide), xu_qn (by decide), xu_rn ej, xu_qn (by decide)]
        · rw [← f4, ← hK]
          rw [xu_qn (by decide), xu_qn (by decide), xu_qn (by decide), xu_qn (by decide), xu_qn (by decide), xu_rn ej, xu_qn (by decide), xu_qn (by decide)]
    · rw [v1, ← hK]
      rw [xu_qn (by decide), xu_qn (by decide), xu_qn (by decide), xu_qn (by decide), xu_rr]
theorem ok_over (h : Rel B L xs C I) (x y w : Int32) : OK1 B L xs C (M_H_over I x y w) (fun J => M_Model_over J x y w) := by
  have h12 := h.2.1.2.1.2
  have c1 := told_eq h x y w
  unfold M_H_over M_Model_over
  simp only [bsome]
  by_cases h0 : M_Wall_isLook I x y w = 0
  · refine err_ok0 1 (by decide) (by decide) h (by rw [if_pos h0]; rfl) ?_
    show (if M_Model_isTold _ x y w = 0 then _ else _) = _
    rw [c1 _ e89, if_pos h0]; rfl
  · rw [if_neg h0]
    obtain ⟨s, t, a, g1, g2, g3, g4, g5, rfl, rfl, rfl⟩ := told_val h h0
    have hl5 := lk_nI h
    have hm1 := mL_nI h
    generalize hn : nL (I 89) = n at *
    by_cases h20 : n = 12
    · refine err_ok0 4 (by decide) (by decide) h (by rw [hl5, if_neg (n_nlt 12 12 (by omega) (by omega))]; rfl) ?_
      show (if M_Model_isTold _ _ _ _ = 0 then _ else _) = _
      rw [c1 _ e89, if_neg h0, e89, hm1, if_pos (by rw [h20]; rfl)]; rfl
    · have q1 : ¬ nI n = 12 := n_ne 12 12 h20 (by omega)
      refine ⟨nI n, xu (xu (xu (xu I 11 n (nI s)) 12 n (nI t)) 13 n (nI a)) 1 5 (nI (n + 1)), _, ?_, ?_, add_rel h hn (by omega) g1 g2 g3 g4 g5⟩
      · rw [hl5, if_pos (n_lt 12 12 (by omega)), add_c hl5 (by omega)]
      · show (if M_Model_isTold _ _ _ _ = 0 then _ else _) = _
        have h89 : (xu (xu (xu (xu I 11 n (nI s)) 12 n (nI t)) 13 n (nI a)) 1 5 (nI (n + 1))) 89 = I 89 := by rw [xu_ne (by decide), xu_ne (by decide), xu_ne (by decide), xu_ne (by decide)]
        rw [c1 _ h89, if_neg h0, h89, hm1, if_neg q1, add_m (by rw [h89]; exact hm1) (by omega)]
end RV
