section RB
variable {B L : Nat} {xs : Nat → Int32} {C : HC} {I J K : HI} {D : Nat → Int32}
theorem mabs_size (x : Int32) : mabs x = M_Model_size x := by
  unfold mabs M_Model_size
  rw [Int32.zero_sub]
theorem far_eq (x y : Int32) : M_Wall_far x y = M_Model_farOf x y := by
  unfold M_Wall_far M_Model_farOf
  simp only [mabs_size]
theorem lamp_sim (h : Rel B L xs C I) (x y : Int32) (hJ : J 89 = I 89) : ∀ f i (a : Int32), i ≤ nS (I 89) → nS (I 89) - i < f → ∃ v, L_H_lamp_29 C x y I f a (nI i) = some v ∧ L_Model_lamp_35 x y J f a (nI i) = some v := by
  have n8 := h.n8
  have hs0 := st_nI h
  have hm0 : J 89 0 = nI (nS (I 89)) := by rw [hJ]; exact mS_nI h
  intro f
  induction f with
  | zero => intro i a _ hf; omega
  | succ f ih =>
    intro i a hi hf
    unfold L_H_lamp_29 L_Model_lamp_35
    rw [hs0, hm0]
    by_cases e : i = nS (I 89)
    · have hc : nI (nS (I 89)) ≤ nI i := nI_le (by omega) (by omega)
      rw [if_pos hc, if_pos hc]
      exact ⟨a, rfl, rfl⟩
    · have hlt : i < nS (I 89) := by omega
      obtain ⟨hws, r1, r2, r3⟩ := h.za.1.2.1 i hlt
      have hg := h.gT (s := i) (by omega)
      have hc : ¬ nI (nS (I 89)) ≤ nI i := nI_ge hlt (by omega)
      rw [if_neg hc, if_neg hc, nI_clamp (by omega), hg, bnd_nI (by omega) (by omega), Bool.and_self, grd_t rfl, show M_Model_of J (nI i) 2 = _ from of_m (k := 2) (by omega) (by omega), Option.bind_some, hJ, r3 2 (by omega) (by omega), far_eq, nI_1]
      by_cases hy : y < M_Model_farOf (I 89 (5 + 7 * i + 2)) x
      · rw [if_pos hy, if_pos hy, Int32.or_zero]
        exact ih (i + 1) a (by omega) (by omega)
      · rw [if_neg hy, if_neg hy]
        exact ih (i + 1) _ (by omega) (by omega)
theorem ok_lamp (h : Rel B L xs C I) (x y : Int32) : OK1 B L xs C (M_H_lamp C I x y) (fun J => M_Model_lamp J x y) := by
  have n8 := h.n8
  unfold M_H_lamp M_Model_lamp
  simp only [bsome, in_nat x (a := 0) (b := 35) (by decide) (by decide), in_nat y (a := 0) (b := 10) (by decide) (by decide), within_eq]
  by_cases hx : ((0 : Nat) : Int) ≤ x.toInt ∧ x.toInt ≤ ((35 : Nat) : Int)
  · have hx' : 0 ≤ x.toInt ∧ x.toInt ≤ (35 : Int32).toInt := hx
    simp only [if_pos hx, if_pos hx', if_neg one0]
    by_cases hy : ((0 : Nat) : Int) ≤ y.toInt ∧ y.toInt ≤ ((10 : Nat) : Int)
    · have hy' : 0 ≤ y.toInt ∧ y.toInt ≤ (10 : Int32).toInt := hy
      simp only [if_pos hy, if_pos hy', if_neg one0]
      obtain ⟨v, v1, v2⟩ := lamp_sim h x y (J := I) rfl 1000 0 0 (by omega) (by omega)
      refine ok_same h (v := v) ?_ ?_
      · rw [show L_H_lamp_29 C x y I 1000 0 0 = some v from v1]; rfl
      · show Option.bind (L_Model_lamp_35 x y I 1000 0 0) _ = _
        rw [show L_Model_lamp_35 x y I 1000 0 0 = some v from v2]; rfl
    · have hy' : ¬ (0 ≤ y.toInt ∧ y.toInt ≤ (10 : Int32).toInt) := hy
      simp only [if_neg hy, if_neg hy', if_pos rfl]
      exact err_ok0 1 (by decide) (by decide) h rfl rfl
  · have hx' : ¬ (0 ≤ x.toInt ∧ x.toInt ≤ (35 : Int32).toInt) := hx
    simp only [if_neg hx, if_neg hx', if_pos rfl]
    exact err_ok0 1 (by decide) (by decide) h rfl rfl
/-- how far a stroke reaches -/
def gpv (D : Nat → Int32) (s : Nat) : Int32 := match kd D s with
  | 0 => 1
  | 1 => 1 + D (5 + 7 * s + 1) / 3
  | 2 => 1
  | 3 => 2
  | 4 => 0
  | 5 => 2
  | _ => 2 + D (5 + 7 * s + 1)
theorem gap_m {s : Nat} (hs : s < 8) (hw : wS (I 89) s) : M_Model_gapOf I (nI s) = some (gpv (I 89) s) := by
  obtain ⟨k1, k2⟩ := kd_eq hw
  unfold M_Model_gapOf
  rw [show M_Model_of I (nI s) 1 = _ from of_m (k := 1) hs (by omega), Option.bind_some, show M_Model_of I (nI s) 0 = some (I 89 (5 + 7 * s)) from of_m (k := 0) hs (by omega), Option.bind_some]
  unfold gpv
  rw [k1]
  generalize kd (I 89) s = k at *
  rcases (show k = 0 ∨ k = 1 ∨ k = 2 ∨ k = 3 ∨ k = 4 ∨ k = 5 ∨ k = 6 by omega) with rfl | rfl | rfl | rfl | rfl | rfl | rfl <;> rfl
theorem kd_kc (h : Rel B L xs C I) {s : Nat} (hs : s < nS (I 89)) : kd (I 89) s = kc C (hT C s) := by
  have n8 := h.n8
  obtain ⟨hws, r1, r2, r3⟩ := h.za.1.2.1 s hs
  have hg := h.gT (s := s) (by omega)
  obtain ⟨k1, k2⟩ := kd_eq hws
  exact (nI_eq (by omega) (by have := gS_k hg; omega)).mp (k1.symm.trans r1)
theorem gap_c (h : Rel B L xs C I) {s : Nat} (hs : s < nS (I 89)) (hJ : J (hT C s) = I (hT C s)) : M_Vgap C J (hT C s) = gpv (I 89) s := by
  have n8 := h.n8
  obtain ⟨hws, r1, r2, r3⟩ := h.za.1.2.1 s hs
  obtain ⟨k1, k2⟩ := kd_eq hws
  unfold M_Vgap M_Forged_gap M_Red_gap gpv
  rw [hJ, r3 1 (by omega) (by omega), ← kd_kc h hs]
  generalize kd (I 89) s = k at *
  rcases (show k = 0 ∨ k = 1 ∨ k = 2 ∨ k = 3 ∨ k = 4 ∨ k = 5 ∨ k = 6 by omega) with rfl | rfl | rfl | rfl | rfl | rfl | rfl <;> rfl
/-- whether two strokes join -/
def jnd (D : Nat → Int32) (s t : Nat) : Bool := decide (stf (kd D s) = stf (kd D t)) && (decide (¬ 9 < M_Model_size (D (5 + 7 * s + 3) - D (5 + 7 * t + 3))) && decide (¬ gpv D s + gpv D t < M_Model_farOf (D (5 + 7 * s + 2)) (D (5 + 7 * t + 2))))
theorem stf_lt {k : Nat} (h : k < 7) : stf k < 4 := by unfold stf; split <;> omega
theorem stuff_m {s : Nat} (hs : s < 8) (hw : wS (I 89) s) : M_Model_stuff I (nI s) = some (nI (stf (kd (I 89) s))) := by
  obtain ⟨k1, k2⟩ := kd_eq hw
  unfold M_Model_stuff
  rw [show M_Model_of I (nI s) 0 = some (I 89 (5 + 7 * s)) from of_m (k := 0) hs (by omega), Option.bind_some]
  rw [k1, stuffOf_m k2]
theorem joined_m {s t : Nat} (hs : s < 8) (ht : t < 8) (hw : wS (I 89) s) (hw' : wS (I 89) t) : M_Model_joined I (nI s) (nI t) = some (if jnd (I 89) s t = true then 1 else 0) := by
  obtain ⟨k1, k2⟩ := kd_eq hw
  obtain ⟨l1, l2⟩ := kd_eq hw'
  have a1 := stf_lt k2
  have a2 := stf_lt l2
  unfold M_Model_joined jnd
  rw [stuff_m hs hw, Option.bind_some, stuff_m ht hw', Option.bind_some, show M_Model_of I (nI s) 3 = _ from of_m (k := 3) hs (by omega), Option.bind_some, show M_Model_of I (nI t) 3 = _ from of_m (k := 3) ht (by omega), Option.bind_some, show M_Model_of I (nI s) 2 = _ from of_m (k := 2) hs (by omega), Option.bind_some, show M_Model_of I (nI t) 2 = _ from of_m (k := 2) ht (by omega), Option.bind_some, gap_m hs hw, Option.bind_some, gap_m ht hw', Option.bind_some]
  by_cases c1 : stf (kd (I 89) s) = stf (kd (I 89) t)
  · rw [if_pos (by rw [c1])]
    by_cases c2 : 9 < M_Model_size (I 89 (5 + 7 * s + 3) - I 89 (5 + 7 * t + 3))
    · rw [if_pos c2]; simp [c1, c2]
    · rw [if_neg c2]
      by_cases c3 : gpv (I 89) s + gpv (I 89) t < M_Model_farOf (I 89 (5 + 7 * s + 2)) (I 89 (5 + 7 * t + 2))
      · rw [if_pos c3]; simp [c3]
      · rw [if_neg c3]; simp [c1, c2, c3]
  · rw [if_neg (fun e => c1 ((nI_eq (by omega) (by omega)).mp e))]; simp [c1]
theorem twoJoin_c (h : Rel B L xs C I) {s t : Nat} (hs : s < nS (I 89)) (ht : t < nS (I 89)) (hc : ∀ c, c ∉ SCR → J c = I c) : M_Wall_twoJoin C J (nI s) (nI t) = some (if jnd (I 89) s t = true then 1 else 0) := by
  have n8 := h.n8
  obtain ⟨hws, r1, r2, r3⟩ := h.za.1.2.1 s hs
  obtain ⟨hwt, q1, q2, q3⟩ := h.za.1.2.1 t ht
  obtain ⟨k1, k2⟩ := kd_eq hws
  obtain ⟨l1, l2⟩ := kd_eq hwt
  have hg := h.gT (s := s) (by omega)
  have hg' := h.gT (s := t) (by omega)
  have a1 := stf_lt k2
  have a2 := stf_lt l2
  unfold M_Wall_twoJoin jnd
  rw [nI_clamp (show s < 2 ^ 31 by omega), nI_clamp (show t < 2 ^ 31 by omega), hg, hg', bnd_nI (show s < 8 by omega) (by omega), bnd_nI (show t < 8 by omega) (by omega), Bool.and_self, grd_t rfl, grd_t rfl, vstuff _ (gS_k hg), vstuff _ (gS_k hg'), ← kd_kc h hs, ← kd_kc h ht, gap_c h hs (hc _ (st_scr hg)), gap_c h ht (hc _ (st_scr hg')), hc _ (st_scr hg), hc _ (st_scr hg'), r3 3 (by omega) (by omega), q3 3 (by omega) (by omega), r3 2 (by omega) (by omega), q3 2 (by omega) (by omega), mabs_size, far_eq]
  by_cases c1 : stf (kd (I 89) s) = stf (kd (I 89) t)
  · rw [if_pos (by rw [c1])]
    by_cases c2 : 9 < M_Model_size (I 89 (5 + 7 * s + 3) - I 89 (5 + 7 * t + 3))
    · rw [if_pos c2]; simp [c1, c2]
    · rw [if_neg c2]
      by_cases c3 : gpv (I 89) s + gpv (I 89) t < M_Model_farOf (I 89 (5 + 7 * s + 2)) (I 89 (5 + 7 * t + 2))
      · rw [if_pos c3]; simp [c3]
      · rw [if_neg c3]; simp [c1, c2, c3]
  · rw [if_neg (fun e => c1 ((nI_eq (by omega) (by omega)).mp e))]; simp [c1]
/-- two strokes named, or an error on both sides -/
theorem two_case (h : Rel B L xs C I) (x y : Int32) : (∃ s t, s < nS (I 89) ∧ t < nS (I 89) ∧ s ≠ t ∧ x = nI s ∧ y = nI t ∧ M_Wall_areTwo I x y = 1 ∧ ∀ J : HI, J 89 = I 89 → M_Model_isStroke J x = 1 ∧ M_Model_isStroke J y = 1 ∧ ¬ x = y) ∨ (M_Wall_areTwo I x y = 0 ∧ ∀ J : HI, J 89 = I 89 → M_Model_isStroke J x = 0 ∨ M_Model_isStroke J y = 0 ∨ x = y) := by
  have n8 := h.n8
  unfold M_Wall_areTwo
  rcases ix_case x (nS (I 89)) (by omega) with ⟨s, hs, rfl⟩ | hx
  · rw [hasS_y (st_nI h) (by omega) hs, if_neg one0]
    rcases ix_case y (nS (I 89)) (by omega) with ⟨t, ht, rfl⟩ | hy
    · rw [hasS_y (st_nI h) (by omega) ht, if_neg one0]
      by_cases e : nI s = nI t
      · rw [if_pos e]
        exact Or.inr ⟨rfl, fun J _ => Or.inr (Or.inr e)⟩
      · rw [if_neg e]
        exact Or.inl ⟨s, t, hs, ht, fun e' => e (by rw [e']), rfl, rfl, rfl, fun J hJ => ⟨isS_y (n := nS (I 89)) (by rw [hJ]; exact mS_nI h) (by omega) hs, isS_y (n := nS (I 89)) (by rw [hJ]; exact mS_nI h) (by omega) ht, e⟩⟩
    · rw [hasS_n (st_nI h) (by omega) hy, if_pos rfl]
      exact Or.inr ⟨rfl, fun J hJ => Or.inr (Or.inl (isS_n (n := nS (I 89)) (by rw [hJ]; exact mS_nI h) (by omega) hy))⟩
  · rw [hasS_n (st_nI h) (by omega) hx, if_pos rfl]
    exact Or.inr ⟨rfl, fun J hJ => Or.inl (isS_n (n := nS (I 89)) (by rw [hJ]; exact mS_nI h) (by omega) hx)⟩
theorem two_err {x y : Int32} {m : Option (Int32 × HI)} (h : M_Model_isStroke J x = 0 ∨ M_Model_isStroke J y = 0 ∨ x = y) : (if M_Model_isStroke J x = 0 then M_Model_finds J 1 else if M_Model_isStroke J y = 0 then M_Model_finds J 1 else if x = y then M_Model_finds J 1 else m) = M_Model_finds J 1 := by
  by_cases h1 : M_Model_isStroke J x = 0
  · rw [if_pos h1]
  · rw [if_neg h1]
    by_cases h2 : M_Model_isStroke J y = 0
    · rw [if_pos h2]
    · rw [if_neg h2]
      rcases h with h | h | h
      · exact absurd h h1
      · exact absurd h h2
      · rw [if_pos h]
theorem ok_join (h : Rel B L xs C I) (x y : Int32) : OK1 B L xs C (M_H_join C I x y) (fun J => M_Model_join J x y) := by
  have n8 := h.n8
  unfold M_H_join M_Model_join
  simp only [bsome]
  rcases two_case h x y with ⟨s, t, hs, ht, hne, rfl, rfl, c1, c2⟩ | ⟨c1, c2⟩
  · rw [c1, if_neg one0, twoJoin_c h hs ht (fun _ _ => rfl), Option.bind_some]
    obtain ⟨d1, d2, d3⟩ := c2 I rfl
    have hm : (fun J => if M_Model_isStroke J (nI s) = 0 then M_Model_finds J 1 else if M_Model_isStroke J (nI t) = 0 then M_Model_finds J 1 else if nI s = nI t then M_Model_finds J 1 else (M_Model_joined J (nI s) (nI t)).bind fun p7 => if p7 = 0 then some (0, J) else some (1, J)) I = if (if jnd (I 89) s t = true then (1 : Int32) else 0) = 0 then some (0, I) else some (1, I) := by
      show (if M_Model_isStroke I (nI s) = 0 then _ else _) = _
      rw [d1, if_neg one0, d2, if_neg one0, if_neg d3, joined_m (by omega) (by omega) (h.2.1.2.2.2.2.1 s hs) (h.2.1.2.2.2.2.1 t ht), Option.bind_some]
    by_cases e : jnd (I 89) s t = true
    · rw [if_pos e, if_neg one0] at hm ⊢
      exact ok_same h rfl hm
    · rw [if_neg e, if_pos rfl] at hm ⊢
      exact ok_same h rfl hm
  · rw [c1, if_pos rfl]
    exact err_ok0 1 (by decide) (by decide) h rfl (two_err (c2 _ e89))
end RB
