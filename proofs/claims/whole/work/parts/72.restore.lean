/-! image, restore -/
section IR
variable {B B' L : Nat} {xs : Nat → Int32} {C C' C0 : HC} {I J K : HI} {D D' : Nat → Int32}
theorem cpM (F : Nat → Int32 → HI → Option HI) (a b : Nat) (hF : ∀ f x (I : HI), F (f + 1) x I = if (270 : Int32) ≤ x then (some I) else (grd (bnd x 270) (F f (x + (1 : Int32)) (xu I b x.toNatClampNeg (I a x.toNatClampNeg))))) (hab : a ≠ b) : ∀ f i (J : HI), i ≤ 270 → 270 - i < f → ∃ K, F f (nI i) J = some K ∧ (∀ c, c ≠ b → K c = J c) ∧ (∀ k, k < i → K b k = J b k) ∧ (∀ k, i ≤ k → k < 270 → K b k = J a k) := by
  intro f
  induction f with
  | zero => intro i J _ h; omega
  | succ f ih =>
    intro i J hi hf
    rw [hF]
    by_cases h : 270 ≤ i
    · rw [if_pos (c_le 270 270 h (by omega))]
      exact ⟨J, rfl, fun _ _ => rfl, fun _ _ => rfl, fun j _ _ => by omega⟩
    · rw [if_neg (c_nle 270 270 (by omega)), grd_t (bnd_nI (by omega) (by omega)), nI_clamp (by omega), nI_1]
      obtain ⟨K, k1, k2, k3, k4⟩ := ih (i + 1) (xu J b i (J a i)) (by omega) (by omega)
      refine ⟨K, k1, fun c hc => by rw [k2 c hc, xu_ne hc], fun k hk => by rw [k3 k (by omega), xu_rn (by omega)], fun k h1 h2 => ?_⟩
      by_cases e : k = i
      · subst e; rw [k3 k (by omega), xu_rr]
      · rw [k4 k (by omega) h2, xu_ne hab]
theorem TC_same {t : Nat} (h0 : K t = I t) (h1 : K (t + 1) = I (t + 1)) (h2 : K (t + 2) = I (t + 2)) : TC I K t t := ⟨by rw [h0], fun _ _ _ j _ => by rw [h1, h2]; exact ⟨rfl, rfl⟩⟩
/-- a wall that stays, while strokes elsewhere are made anew -/
theorem RW_kind {b : Nat} {T T' : Nat → Nat} (h : RW C T I b D) (hD : WD D) (hT : T' = T) (hb : ∀ c, c ∈ wcs b → K c = I c) (hs : ∀ s, s < nS D → K (T s) = I (T s) ∧ kc C' (T s) = kc C (T s)) : RW C' T' K b D := by
  subst hT
  have m : ∀ c, c ∈ [b, b + 10, b + 11, b + 12, b + 13, b + 30, b + 15, b + 15 + 1, b + 15 + 2, b + 20, b + 20 + 1, b + 20 + 2] → K c = I c := hb
  refine RW_cp h hD (fun _ _ => rfl) ?_ (fun s hs' => ⟨(hs s hs').2, fun k _ => by rw [(hs s hs').1]⟩) (fun l _ => ?_) (fun j _ => ?_) (fun j _ => ?_) (TC_same (m _ (by simp)) (m _ (by simp)) (m _ (by simp))) (TC_same (m _ (by simp)) (m _ (by simp)) (m _ (by simp)))
  · rw [m b (by simp)]; exact ⟨rfl, rfl, rfl, rfl, rfl⟩
  · rw [m (b + 10) (by simp), m (b + 11) (by simp), m (b + 12) (by simp)]; exact ⟨rfl, rfl, rfl⟩
  · rw [m (b + 13) (by simp)]
  · rw [m (b + 30) (by simp)]
theorem ok_image (h : Rel B L xs C I) (hB : B + 9 < 800000) : OK2 B L xs (M_H_image C I) (fun J => M_Model_image J) := by
  have n8 := h.n8
  obtain ⟨C', K, k1, k2, k3, k4, k5, k6⟩ := wallU hB h.1 h.2.1 h.2.2.1
  obtain ⟨M, m1, m2, -, m4⟩ := cpM L_Model_copies_2 89 90 (fun _ _ _ => rfl) (by decide) 1000 0 (xu K 0 9 (K 0 9 + 1)) (by omega) (by omega)
  have cc : ∀ c, c < 107 → ¬ (xtab c).1 < 7 → c ∉ [32, 42, 43, 44, 45, 47, 48, 49, 52, 53, 54, 62] → K c = I c := fun c h1 h2 h3 => k5 c (Or.inl ⟨h1, h2⟩) h3
  have k0 : K 0 = I 0 := cc 0 (by decide) (by decide) (by decide)
  have k88 : K 88 = I 88 := cc 88 (by decide) (by decide) (by decide)
  have k89 : K 89 = I 89 := cc 89 (by decide) (by decide) (by decide)
  have mc : ∀ c, c ≠ 90 → c ≠ 0 → M c = K c := fun c c1 c2 => by rw [m2 c c1, xu_ne c2]
  have d90 : ∀ k, k < 270 → M 90 k = I 89 k := fun k hk => by rw [m4 k (by omega) hk, xu_ne (by decide), k89]
  have e88 : M 88 2 = I 88 2 := by rw [mc 88 (by decide) (by decide), k88]
  refine ⟨K 0 9 + 1, C', xu K 0 9 (K 0 9 + 1), xu M 88 2 (M 88 2 + 1), ?_, ?_, ?_⟩
  · unfold M_H_image
    simp only [lt_def]
    rw [k1, Option.bind_some]
    simp only []
    rw [xu_rr]
  · show M_Model_image _ = _
    unfold M_Model_image M_Model_copies
    simp only [lt_def]
    rw [show L_Model_copies_2 1000 0 (xu K 0 9 (K 0 9 + 1)) = some M from m1, Option.bind_some, Option.bind_some, xu_rr, e88, ← h.2.2.2.1, k0]
  · have fK : ∀ c, c ≠ 88 → c ≠ 90 → c ≠ 0 → xu M 88 2 (M 88 2 + 1) c = K c := fun c c1 c2 c3 => by rw [xu_ne c1, mc c c2 c3]
    have f89 : xu M 88 2 (M 88 2 + 1) 89 = I 89 := by rw [fK 89 (by decide) (by decide) (by decide), k89]
    have sT : ∀ s, s < 8 → xu M 88 2 (M 88 2 + 1) (hT C s) = I (hT C s) := fun s hs => by
      have g := lay_gT h.1 hs
      rw [fK _ (st_ne g (by decide) (by decide)) (st_ne g (by decide) (by decide)) (st_ne g (by decide) (by decide))]
      refine k5 _ (Or.inr (Or.inr ⟨s, hs, rfl⟩)) (fun hm => ?_)
      have : ∀ c, c ∈ [32, 42, 43, 44, 45, 47, 48, 49, 52, 53, 54, 62] → c < 107 ∧ ¬ (xtab c).1 < 7 := by decide
      exact st_ne g (this _ hm).1 (this _ hm).2 rfl
    refine h.put (lay_up k2 (by omega)) (by rw [f89]; exact h.2.1) ?_ ?_ (fun _ => ⟨?_, ?_⟩) (fun c hc => ?_) ?_
    · rw [f89]
      refine RW_kind h.2.2.1 h.2.1 k3 (fun c hc => ?_) (fun s hs => ⟨sT s (by omega), (k4 _ (lay_gT h.1 (by omega))).2⟩)
      have : ∀ c, c ∈ wcs 1 → c < 107 ∧ ¬ (xtab c).1 < 7 ∧ c ∉ [32, 42, 43, 44, 45, 47, 48, 49, 52, 53, 54, 62] ∧ c ≠ 88 ∧ c ≠ 90 ∧ c ≠ 0 := by decide
      obtain ⟨a1, a2, a3, a4, a5, a6⟩ := this c hc
      rw [fK c a4 a5 a6]; exact cc c a1 a2 a3
    · rw [xu_ne (by decide), xu_rr, m2 0 (by decide), xu_rr, e88, ← h.2.2.2.1, k0]
    · rw [xu_ne (by decide)]; exact WD_270 h.2.1 d90
    · rw [xu_ne (by decide)]
      refine (k6 (M 90) d90).fr (fun c hc => ?_) (fun s hs => ?_)
      · have : ∀ c, c ∈ wcs 32 → c ≠ 88 ∧ c ≠ 90 ∧ c ≠ 0 := by decide
        obtain ⟨a4, a5, a6⟩ := this c hc
        exact fK c a4 a5 a6
      · have hs8 : s < 8 := by
          have := nS_c (d90 0 (by omega))
          omega
        have g := lay_gU k2 hs8
        exact fK _ (st_ne g (by decide) (by decide)) (st_ne g (by decide) (by decide)) (st_ne g (by decide) (by decide))
    · have : ∀ c, c ∈ [86, 87, 91, 102, 84, 103, 85, 104, 105, 80, 81, 82, 83, 1000000, 1000001] → ((c < 107 ∧ ¬ (xtab c).1 < 7) ∨ 1000000 ≤ c) ∧ c ∉ [32, 42, 43, 44, 45, 47, 48, 49, 52, 53, 54, 62] ∧ c ≠ 88 ∧ c ≠ 90 ∧ c ≠ 0 := by decide
      obtain ⟨a1, a3, a4, a5, a6⟩ := this c hc
      rw [fK c a4 a5 a6]
      exact k5 c (by rcases a1 with a | a
                     · exact Or.inl a
                     · exact Or.inr (Or.inl a)) a3
    · rw [xu_rn (by decide), mc 88 (by decide) (by decide), k88]
theorem ok_restore (h : Rel B L xs C I) (hB : B + 9 < 800000) : OK2 B L xs (M_H_restore C I) (fun J => M_Model_restore J) := by
  have n8 := h.n8
  unfold M_H_restore
  by_cases e0 : I 0 9 = 0
  · rw [if_pos e0]
    refine err2 (k := 2) h (by decide) (by decide) ?_
    show M_Model_restore _ = _
    unfold M_Model_restore
    rw [if_pos (by rw [xu_ne (by decide), ← h.2.2.2.1]; exact e0), bsome]
    rfl
  · rw [if_neg e0]
    have e88 : I 88 2 ≠ 0 := by rw [← h.2.2.2.1]; exact e0
    obtain ⟨w1, w2⟩ := h.2.2.2.2.1 e88
    obtain ⟨C', K, k1, k2, k3, k4, k5, k6⟩ := wallT hB h.1 w1 w2
    obtain ⟨M, m1, m2, -, m4⟩ := cpM L_Model_copies_2_2 90 89 (fun _ _ _ => rfl) (by decide) 1000 0 K (by omega) (by omega)
    have cc : ∀ c, c < 107 → ¬ (xtab c).1 < 7 → c ∉ [1, 11, 12, 13, 14, 16, 17, 18, 21, 22, 23, 31] → K c = I c := fun c h1 h2 h3 => k5 c (Or.inl ⟨h1, h2⟩) h3
    have k90 : K 90 = I 90 := cc 90 (by decide) (by decide) (by decide)
    have k88 : K 88 = I 88 := cc 88 (by decide) (by decide) (by decide)
    have d89 : ∀ k, k < 270 → M 89 k = I 90 k := fun k hk => by rw [m4 k (by omega) hk, k90]
    have r6 := k6 (M 89) d89
    refine ⟨K 1 1, C', K, M, ?_, ?_, ?_⟩
    · rw [k1, Option.bind_some]
    · show M_Model_restore K = _
      unfold M_Model_restore M_Model_copies_2
      rw [if_neg (by rw [k88]; exact e88), show L_Model_copies_2_2 1000 0 K = some M from m1, Option.bind_some, Option.bind_some, r6.1.1]
    · refine h.put (lay_up k2 (by omega)) (WD_270 w1 d89) ?_ ?_ (fun _ => ⟨?_, ?_⟩) (fun c hc => ?_) ?_
      · refine r6.fr (fun c hc => ?_) (fun s hs => ?_)
        · have : ∀ c, c ∈ wcs 1 → c ≠ 89 := by decide
          exact m2 c (this c hc)
        · have hs8 : s < 8 := by
            have := nS_c (d89 0 (by omega))
            have := w1.1.2
            omega
          have g := lay_gT k2 hs8
          exact m2 _ (st_ne g (by decide) (by decide))
      · rw [m2 0 (by decide), m2 88 (by decide), k88, cc 0 (by decide) (by decide) (by decide)]; exact h.2.2.2.1
      · rw [m2 90 (by decide), k90]; exact w1
      · rw [m2 90 (by decide), k90]
        have n8' := w1.1.2
        refine RW_kind w2 w1 k3 (fun c hc => ?_) (fun s hs => ⟨?_, (k4 _ (lay_gU h.1 (by omega))).2⟩)
        · have : ∀ c, c ∈ wcs 32 → c < 107 ∧ ¬ (xtab c).1 < 7 ∧ c ∉ [1, 11, 12, 13, 14, 16, 17, 18, 21, 22, 23, 31] ∧ c ≠ 89 := by decide
          obtain ⟨a1, a2, a3, a4⟩ := this c hc
          rw [m2 c a4]; exact cc c a1 a2 a3
        · have g := lay_gU h.1 (show s < 8 by omega)
          rw [m2 _ (st_ne g (by decide) (by decide))]
          refine k5 _ (Or.inr (Or.inr ⟨s, by omega, rfl⟩)) (fun hm => ?_)
          have : ∀ c, c ∈ [1, 11, 12, 13, 14, 16, 17, 18, 21, 22, 23, 31] → c < 107 ∧ ¬ (xtab c).1 < 7 := by decide
          exact st_ne g (this _ hm).1 (this _ hm).2 rfl
      · have : ∀ c, c ∈ [86, 87, 91, 102, 84, 103, 85, 104, 105, 80, 81, 82, 83, 1000000, 1000001] → ((c < 107 ∧ ¬ (xtab c).1 < 7) ∨ 1000000 ≤ c) ∧ c ∉ [1, 11, 12, 13, 14, 16, 17, 18, 21, 22, 23, 31] ∧ c ≠ 89 := by decide
        obtain ⟨a1, a3, a4⟩ := this c hc
        rw [m2 c a4]
        exact k5 c (by rcases a1 with a | a
                       · exact Or.inl a
                       · exact Or.inr (Or.inl a)) a3
      · rw [m2 88 (by decide), k88]
end IR
