/-! how the class's cells stand to the reference's -/
def nS (D : Nat → Int32) : Nat := (D 0).toNatClampNeg
def nL (D : Nat → Int32) : Nat := (D 1).toNatClampNeg
def nT (D : Nat → Int32) : Nat := (D 3).toNatClampNeg
def nW (D : Nat → Int32) : Nat := (D 4).toNatClampNeg
def wS (D : Nat → Int32) (s : Nat) : Prop := (∃ k, k < 7 ∧ D (5 + 7 * s) = nI k) ∧ rg (D (5 + 7 * s + 1)) 9 ∧ rg (D (5 + 7 * s + 2)) 35 ∧ rg (D (5 + 7 * s + 3)) 99 ∧ rg (D (5 + 7 * s + 4)) 9999 ∧ rg (D (5 + 7 * s + 5)) 9999 ∧ rg (D (5 + 7 * s + 6)) 99
def wL (D : Nat → Int32) (l : Nat) : Prop := ∃ u w a, u < nS D ∧ w < nS D ∧ u ≠ w ∧ 1 ≤ a ∧ a ≤ 99 ∧ D (61 + 3 * l) = nI u ∧ D (61 + 3 * l + 1) = nI w ∧ D (61 + 3 * l + 2) = nI a
def WD (D : Nat → Int32) : Prop := (D 0 = nI (nS D) ∧ nS D ≤ 8) ∧ (D 1 = nI (nL D) ∧ nL D ≤ 12) ∧ (D 3 = nI (nT D) ∧ nT D ≤ 50) ∧ (D 4 = nI (nW D) ∧ nW D ≤ 20) ∧ (∀ s, s < nS D → wS D s) ∧ (∀ l, l < nL D → wL D l) ∧ (∀ j, j < nT D → rg (D (219 + j)) 255) ∧ WT D 0 ∧ WT D 1
def rS (C : HC) (T : Nat → Nat) (I : HI) (D : Nat → Int32) (s : Nat) : Prop := D (5 + 7 * s) = nI (kc C (T s)) ∧ I (T s) 0 = nI s ∧ ∀ k, 1 ≤ k → k ≤ 6 → I (T s) k = D (5 + 7 * s + k)
/-- the wall at cell b (its strokes at T) is what the reference's row D says -/
def RW (C : HC) (T : Nat → Nat) (I : HI) (b : Nat) (D : Nat → Int32) : Prop :=
  (I b 1 = D 0 ∧ I b 5 = D 1 ∧ I b 7 = D 3 ∧ I b 11 = D 4 ∧ I b 12 = D 2) ∧ (∀ s, s < nS D → rS C T I D s) ∧ (∀ l, l < nL D → I (b + 10) l = D (61 + 3 * l) ∧ I (b + 11) l = D (61 + 3 * l + 1) ∧ I (b + 12) l = D (61 + 3 * l + 2)) ∧ (∀ j, j < nT D → I (b + 13) j = D (219 + j)) ∧ (∀ j, j < nW D → I (b + 30) j = D (99 + j)) ∧ rT I (b + 15) D 0 ∧ rT I (b + 20) D 1
def Lay (B L : Nat) (C : HC) : Prop := hm C ≤ B ∧ hL C = L ∧ (∀ i, i < 8 → gS C (hT C i) = true ∧ gS C (hU C i) = true) ∧ (∀ i j, i < 8 → j < 8 → hT C i = hT C j → i = j) ∧ (∀ i j, i < 8 → j < 8 → hU C i = hU C j → i = j) ∧ (∀ i j, i < 8 → j < 8 → hT C i ≠ hU C j)
def TR (I : HI) : Prop := ∃ t, t ≤ 40 ∧ I 86 0 = nI t ∧ I 88 21 = nI t ∧ ∀ j, j < t → I 86 (j + 1) = I 102 j
def SH (I : HI) : Prop := ∀ s, s < 4 → I 84 s = I 103 s ∧ I 85 s = I 104 s ∧ (I 84 s = 0 ∨ I 84 s = 8 ∨ I 84 s = 16 ∨ I 84 s = 32) ∧ rg (I 85 s) 40 ∧ ∀ j, j < 40 → I (80 + s) j = I 105 (40 * s + j)
def MP (I : HI) : Prop := I 1000001 0 = -1 ∧ I 1000001 1 = -1 ∧ I 1000001 2 = 35 ∧ I 1000001 3 = 99 ∧ I 1000001 4 = 9999 ∧ I 1000001 5 = 9999 ∧ I 1000001 6 = 99
def Rel (B L : Nat) (xs : Nat → Int32) (C : HC) (I : HI) : Prop :=
  Lay B L C ∧ WD (I 89) ∧ RW C (hT C) I 1 (I 89) ∧ I 0 9 = I 88 2 ∧ (I 88 2 ≠ 0 → WD (I 90) ∧ RW C (hU C) I 32 (I 90)) ∧ (∀ k, k < 6 → I 87 k = I 91 k) ∧ TR I ∧ SH I ∧ MP I ∧ I 1000000 = xs
/-- cells that are worked with and left -/
def SCR : List Nat := [19, 24, 26, 27, 28, 29, 50, 55, 57, 58, 59, 60, 63, 64, 65, 66, 67, 68, 69, 70, 71, 72, 73, 74, 75, 76, 77, 78, 88, 92, 93, 94, 95, 96, 97, 98, 99, 100, 101, 106]
theorem scr_cls : ∀ c, c ∈ SCR → c < 107 ∧ ¬ (xtab c).1 < 7 := by decide
theorem st_ne {C : HC} {q r : Nat} (h : gS C q = true) (hr : r < 107) (hc : ¬ (xtab r).1 < 7) : q ≠ r := by
  rintro rfl
  have h2 := gS_k h
  unfold kc at h2
  rw [kK_lit hr] at h2
  exact hc h2
theorem st_scr {C : HC} {q : Nat} (h : gS C q = true) : q ∉ SCR := fun hm => st_ne h (scr_cls q hm).1 (scr_cls q hm).2 rfl
section RL
variable {B L : Nat} {xs : Nat → Int32} {C : HC} {I J : HI} {D : Nat → Int32} {T : Nat → Nat}
theorem rT.fr {t u : Nat} (h : rT I t D u) (h0 : J t = I t) (h1 : J (t + 1) = I (t + 1)) (h2 : J (t + 2) = I (t + 2)) : rT J t D u := by
  unfold rT at h ⊢
  rw [h0, h1, h2]
  exact h
/-- the cells of a wall -/
def wcs (b : Nat) : List Nat := [b, b + 10, b + 11, b + 12, b + 13, b + 30, b + 15, b + 15 + 1, b + 15 + 2, b + 20, b + 20 + 1, b + 20 + 2]
theorem wcs1 : ∀ c, c ∈ wcs 1 → c ∉ SCR := by decide
theorem wcs32 : ∀ c, c ∈ wcs 32 → c ∉ SCR := by decide
/-- a wall whose cells stay is what it was -/
theorem RW.fr {b : Nat} (h : RW C T I b D) (hb : ∀ c, c ∈ wcs b → J c = I c) (hT : ∀ s, s < nS D → J (T s) = I (T s)) : RW C T J b D := by
  obtain ⟨h1, h2, h3, h4, h5, h6, h7⟩ := h
  refine ⟨by rw [hb b (by simp [wcs])]; exact h1, fun s hs => ?_, fun l hl => ?_, fun j hj => ?_, fun j hj => ?_, h6.fr (hb _ (by simp [wcs])) (hb _ (by simp [wcs])) (hb _ (by simp [wcs])), h7.fr (hb _ (by simp [wcs])) (hb _ (by simp [wcs])) (hb _ (by simp [wcs]))⟩
  · obtain ⟨g1, g2, g3⟩ := h2 s hs
    unfold rS
    rw [hT s hs]
    exact ⟨g1, g2, g3⟩
  · rw [hb _ (by simp [wcs]), hb _ (by simp [wcs]), hb _ (by simp [wcs])]; exact h3 l hl
  · rw [hb _ (by simp [wcs])]; exact h4 j hj
  · rw [hb _ (by simp [wcs])]; exact h5 j hj
theorem Rel.n8 (h : Rel B L xs C I) : nS (I 89) ≤ 8 := h.2.1.1.2
theorem Rel.gT (h : Rel B L xs C I) {s : Nat} (hs : s < 8) : gS C (hT C s) = true := (h.1.2.2.1 s hs).1
/-- scratch doesn't matter -/
theorem Rel.fr {W : List Nat} (h : Rel B L xs C I) (hf : fr W I J) (hW : W.all (fun c => SCR.contains c) = true) (h2 : J 88 2 = I 88 2) (h21 : J 88 21 = I 88 21) : Rel B L xs C J := by
  have hc : ∀ c, c ∉ SCR → J c = I c := fun c hc => hf c (fun hm => hc (by
    have := List.all_eq_true.mp hW c hm
    simpa using this))
  obtain ⟨r1, r2, r3, r4, r5, r6, r7, r8, r9, r10⟩ := h
  have e89 := hc 89 (by decide)
  have e90 := hc 90 (by decide)
  refine ⟨r1, by rw [e89]; exact r2, ?_, by rw [hc 0 (by decide), h2]; exact r4, fun hne => ?_, fun k hk => by rw [hc 87 (by decide), hc 91 (by decide)]; exact r6 k hk, ?_, ?_, ?_, by rw [hc 1000000 (by decide)]; exact r10⟩
  · rw [e89]
    exact r3.fr (fun c hm => hc c (wcs1 c hm)) (fun s hs => hc _ (st_scr (r1.2.2.1 s (by have := r2.1.2; omega)).1))
  · obtain ⟨g1, g2⟩ := r5 (by rw [← h2]; exact hne)
    rw [e90]
    exact ⟨g1, g2.fr (fun c hm => hc c (wcs32 c hm)) (fun s hs => hc _ (st_scr (r1.2.2.1 s (by have := g1.1.2; omega)).2))⟩
  · obtain ⟨t, t1, t2, t3, t4⟩ := r7
    refine ⟨t, t1, by rw [hc 86 (by decide)]; exact t2, by rw [h21]; exact t3, fun j hj => by rw [hc 86 (by decide), hc 102 (by decide)]; exact t4 j hj⟩
  · intro s hs
    rw [hc 84 (by decide), hc 103 (by decide), hc 85 (by decide), hc 104 (by decide), hc 105 (by decide), hc (80 + s) (by rcases (show s = 0 ∨ s = 1 ∨ s = 2 ∨ s = 3 by omega) with rfl | rfl | rfl | rfl <;> decide)]
    exact r8 s hs
  · unfold MP
    rw [hc 1000001 (by decide)]
    exact r9
/-- an error, on both sides -/
theorem err_h (k : Nat) (h1 : 1 ≤ k) (h5 : k ≤ 5) (I : HI) : M_H_error I (nI k) = some (-1000000000 - nI k, xu I 87 k (I 87 k + 1)) := by
  unfold M_H_error
  rw [grd_t (bnd_nI (by omega) (by omega)), nI_clamp (by omega)]
  rfl
theorem err_m (k : Nat) (h1 : 1 ≤ k) (h5 : k ≤ 5) (I : HI) : M_Model_finds I (nI k) = some (-1000000000 - nI k, xu I 91 k (I 91 k + 1)) := by
  unfold M_Model_finds
  rw [grd_t (bnd_nI (by omega) (by omega)), nI_clamp (by omega)]
  rfl
theorem Rel.err (h : Rel B L xs C I) (k : Nat) : Rel B L xs C (xu (xu I 87 k (I 87 k + 1)) 91 k (I 91 k + 1)) := by
  obtain ⟨r1, r2, r3, r4, r5, r6, r7, r8, r9, r10⟩ := h
  have hc : ∀ c, c ≠ 87 → c ≠ 91 → (xu (xu I 87 k (I 87 k + 1)) 91 k (I 91 k + 1)) c = I c := fun c h1 h2 => by rw [xu_ne h2, xu_ne h1]
  have e89 := hc 89 (by decide) (by decide)
  have e90 := hc 90 (by decide) (by decide)
  have e88 := hc 88 (by decide) (by decide)
  have hst : ∀ q, gS C q = true → (xu (xu I 87 k (I 87 k + 1)) 91 k (I 91 k + 1)) q = I q := fun q hq => hc q (st_ne hq (by decide) (by decide)) (st_ne hq (by decide) (by decide))
  refine ⟨r1, by rw [e89]; exact r2, ?_, by rw [hc 0 (by decide) (by decide), e88]; exact r4, fun hne => ?_, fun j hj => ?_, ?_, ?_, ?_, by rw [hc 1000000 (by decide) (by decide)]; exact r10⟩
  · rw [e89]
    exact r3.fr (fun c hm => hc c (by rintro rfl; revert hm; decide) (by rintro rfl; revert hm; decide)) (fun s hs => hst _ (r1.2.2.1 s (by have := r2.1.2; omega)).1)
  · obtain ⟨g1, g2⟩ := r5 (by rw [← e88]; exact hne)
    rw [e90]
    exact ⟨g1, g2.fr (fun c hm => hc c (by rintro rfl; revert hm; decide) (by rintro rfl; revert hm; decide)) (fun s hs => hst _ (r1.2.2.1 s (by have := g1.1.2; omega)).2)⟩
  · by_cases e : j = k
    · subst e
      rw [xu_rr, xu_qn (by decide), xu_rr, r6 j hj]
    · rw [xu_qn (by decide), xu_rn e, xu_rn e, xu_qn (by decide)]
      exact r6 j hj
  · obtain ⟨t, t1, t2, t3, t4⟩ := r7
    refine ⟨t, t1, by rw [hc 86 (by decide) (by decide)]; exact t2, by rw [e88]; exact t3, fun j hj => by rw [hc 86 (by decide) (by decide), hc 102 (by decide) (by decide)]; exact t4 j hj⟩
  · intro s hs
    rw [hc 84 (by decide) (by decide), hc 103 (by decide) (by decide), hc 85 (by decide) (by decide), hc 104 (by decide) (by decide), hc 105 (by decide) (by decide), hc (80 + s) (by omega) (by omega)]
    exact r8 s hs
  · unfold MP
    rw [hc 1000001 (by decide) (by decide)]
    exact r9
/-- what is to be shown of a call that leaves the cells' places -/
def OK1 (B L : Nat) (xs : Nat → Int32) (C : HC) (h : Option (Int32 × HI)) (m : HI → Option (Int32 × HI)) : Prop := ∃ v J K, h = some (v, J) ∧ m J = some (v, K) ∧ Rel B L xs C K
def OK2 (B L : Nat) (xs : Nat → Int32) (h : Option (Int32 × HC × HI)) (m : HI → Option (Int32 × HI)) : Prop := ∃ v C' J K, h = some (v, C', J) ∧ m J = some (v, K) ∧ Rel (B + 9) L xs C' K
/-- an error behind scratch on both sides -/
theorem err_ok {h : Option (Int32 × HI)} {m : HI → Option (Int32 × HI)} (k : Nat) (h1 : 1 ≤ k) (h5 : k ≤ 5) {I1 : HI} (hr : Rel B L xs C I1) (hh : h = M_H_error I1 (nI k)) {W : List Nat} (hm : ∃ J', CHandOverHorseLaw_law_r6034_3da50c.fr W (xu I1 87 k (I1 87 k + 1)) J' ∧ W.all (fun c => SCR.contains c) = true ∧ J' 88 2 = I1 88 2 ∧ J' 88 21 = I1 88 21 ∧ m (xu I1 87 k (I1 87 k + 1)) = M_Model_finds J' (nI k)) : OK1 B L xs C h m := by
  obtain ⟨J', f1, f2, f3, f4, f5⟩ := hm
  refine ⟨_, _, _, by rw [hh]; exact err_h k h1 h5 I1, by rw [f5]; exact err_m k h1 h5 J', ?_⟩
  have h91 : J' 91 k = I1 91 k := by
    rw [f1 91 (fun hm => by
      have := List.all_eq_true.mp f2 91 hm
      exact absurd this (by decide)), xu_qn (by decide)]
  rw [h91]
  have hR := hr.err k
  refine Rel.fr (W := W) hR ?_ f2 ?_ ?_
  · intro c hc
    by_cases e : c = 91
    · subst e
      funext j
      rw [xu_app, xu_app, if_pos rfl, if_pos rfl, f1 91 hc]
    · rw [xu_ne e, xu_ne e, f1 c hc]
  · rw [xu_qn (by decide), xu_qn (by decide), xu_qn (by decide)]; exact f3
  · rw [xu_qn (by decide), xu_qn (by decide), xu_qn (by decide)]; exact f4
/-- an error at once on both sides -/
theorem err_ok0 {h : Option (Int32 × HI)} {m : HI → Option (Int32 × HI)} (k : Nat) (h1 : 1 ≤ k) (h5 : k ≤ 5) (hr : Rel B L xs C I) (hh : h = M_H_error I (nI k)) (hm : m (xu I 87 k (I 87 k + 1)) = M_Model_finds (xu I 87 k (I 87 k + 1)) (nI k)) : OK1 B L xs C h m :=
  err_ok k h1 h5 hr hh (W := []) ⟨_, fr.refl, rfl, by rw [xu_qn (by decide)], by rw [xu_qn (by decide)], hm⟩
end RL
