section RV
variable {C : HC} {q s k : Nat} {m x : Int32} {F G : HI → Option (Int32 × HI)}
/-- a voice on both sides: the trace, the stroke's number, m and kind -/
def VS (q s k : Nat) (m : Int32) (J K : HI) : Prop := (∃ t, t ≤ 40 ∧ J 86 0 = nI t ∧ K 88 21 = nI t ∧ ∀ j, j < t → J 86 (j + 1) = K 102 j) ∧ J q 0 = nI s ∧ J q 1 = m ∧ K 88 22 = nI s ∧ K 89 (5 + 7 * s) = nI k ∧ K 89 (5 + 7 * s + 1) = m
def Vok (q s k : Nat) (m : Int32) (F G : HI → Option (Int32 × HI)) : Prop := ∀ J K, VS q s k m J K → ∃ v J' K', F J = some (v, J') ∧ G K = some (v, K') ∧ VS q s k m J' K'
theorem Vok.ret (v : Int32) : Vok q s k m (fun J => some (v, J)) (fun K => some (v, K)) := fun J K h => ⟨v, J, K, rfl, rfl, h⟩
theorem Vok.bd {F' G' : Int32 × HI → Option (Int32 × HI)} (h : Vok q s k m F G) (h' : ∀ v, Vok q s k m (fun J => F' (v, J)) (fun K => G' (v, K))) : Vok q s k m (fun J => (F J).bind F') (fun K => (G K).bind G') := by
  intro J K hv
  obtain ⟨v, J', K', h1, h2, h3⟩ := h J K hv
  obtain ⟨w, J2, K2, g1, g2, g3⟩ := h' v J' K' h3
  exact ⟨w, J2, K2, by show (F J).bind F' = _; rw [h1]; exact g1, by show (G K).bind G' = _; rw [h2]; exact g2, g3⟩
theorem Vok.cg {F' G' : HI → Option (Int32 × HI)} (h : Vok q s k m F G) (hF : ∀ J, F' J = F J) (hG : ∀ K, G' K = G K) : Vok q s k m F' G' := by
  intro J K hv
  obtain ⟨v, J', K', h1, h2, h3⟩ := h J K hv
  exact ⟨v, J', K', by rw [hF]; exact h1, by rw [hG]; exact h2, h3⟩
theorem Vok.run (hq : q ≠ 86) (x : Int32) (h : Vok q s k m F G) : Vok q s k m (fun J => (M_Stroke_begin J x).bind F) (fun K => (M_Model_ran K x).bind G) := by
  intro J K hv
  obtain ⟨⟨t, t1, t2, t3, t4⟩, v1, v2, v3, v4, v5⟩ := hv
  suffices hs : ∃ J' K', M_Stroke_begin J x = some J' ∧ M_Model_ran K x = some K' ∧ VS q s k m J' K' by
    obtain ⟨J', K', a1, a2, a3⟩ := hs
    obtain ⟨w, J2, K2, g1, g2, g3⟩ := h J' K' a3
    exact ⟨w, J2, K2, by show (M_Stroke_begin J x).bind F = _; rw [a1]; exact g1, by show (M_Model_ran K x).bind G = _; rw [a2]; exact g2, g3⟩
  by_cases e : t = 40
  · have hc : (40 : Int32) ≤ nI t := c_le 40 40 (by omega) (by omega)
    refine ⟨J, K, ?_, ?_, ⟨t, t1, t2, t3, t4⟩, v1, v2, v3, v4, v5⟩
    · unfold M_Stroke_begin; rw [t2, if_pos hc]
    · unfold M_Model_ran; rw [t3, if_pos hc]
  · have hc : ¬ (40 : Int32) ≤ nI t := c_nle 40 40 (by omega)
    refine ⟨xu (xu J 86 0 (nI (t + 1))) 86 (t + 1) x, xu (xu K 102 t x) 88 21 (nI (t + 1)), ?_, ?_, ⟨t + 1, by omega, by rw [xu_rn (by omega), xu_rr], by rw [xu_rr], fun j hj => ?_⟩, by rw [xu_qn hq, xu_qn hq]; exact v1, by rw [xu_qn hq, xu_qn hq]; exact v2, by rw [xu_rn (by omega), xu_qn (by decide)]; exact v3, by rw [xu_qn (by decide), xu_qn (by decide)]; exact v4, by rw [xu_qn (by decide), xu_qn (by decide)]; exact v5⟩
    · unfold M_Stroke_begin
      simp only [lt_def]
      rw [t2, if_neg hc, nI_1, xu_rr, grd_t (bnd_nI (show t + 1 < 41 by omega) (by omega)), nI_clamp (by omega)]
    · unfold M_Model_ran
      simp only [lt_def]
      rw [t3, if_neg hc, grd_t (bnd_nI (show t < 40 by omega) (by omega)), nI_clamp (by omega), xu_qn (show (88 : Nat) ≠ 102 by decide), t3, nI_1]
    · by_cases ej : j = t
      · subst ej
        rw [xu_rr, xu_qn (by decide), xu_rr]
      · rw [xu_rn (by omega), xu_rn (by omega), xu_qn (by decide), xu_rn ej]
        exact t4 j (by omega)
theorem own_v (hs : s < 8) {K J : HI} (h : VS q s k m J K) : M_Model_own K = some (nI k) := by
  unfold M_Model_own
  rw [h.2.2.2.1, show M_Model_of K (nI s) 0 = _ from of_m (k := 0) hs (by omega), Option.bind_some]
  exact congrArg some h.2.2.2.2.1
theorem Vok.own (hs : s < 8) {G' : Int32 → HI → Option (Int32 × HI)} (h : Vok q s k m F (G' (nI k))) : Vok q s k m F (fun K => (M_Model_own K).bind fun p => G' p K) := by
  intro J K hv
  obtain ⟨v, J', K', h1, h2, h3⟩ := h J K hv
  exact ⟨v, J', K', h1, by show (M_Model_own K).bind _ = _; rw [own_v hs hv, Option.bind_some]; exact h2, h3⟩
/-! a kind's voice is that of the kind above -/
theorem up_draws {f : Nat} {K : HI} {a b : Int32} (h0 : ¬ a = 0) (h2 : ¬ a = 2) (hb : M_Model_above a = b) : M_Model_draws (U_draws (f + 1)) K a x = M_Model_draws (U_draws f) K b x := by
  subst hb
  show (if a = 0 then _ else _) = _
  rw [if_neg h0, if_neg h2, bsome]
  rfl
theorem up_peels {f : Nat} {K : HI} {a b : Int32} (h0 : ¬ a = 0) (h2 : ¬ a = 3) (h3 : ¬ a = 6) (hb : M_Model_above a = b) : M_Model_peels (U_peels (f + 1)) K a x = M_Model_peels (U_peels f) K b x := by
  subst hb
  show (if a = 0 then _ else _) = _
  rw [if_neg h0, if_neg h2, if_neg h3, bsome]
  rfl
theorem up_dries {f : Nat} {K : HI} {a b : Int32} (h0 : ¬ a = 0) (h1 : ¬ a = 1) (h4 : ¬ a = 4) (hb : M_Model_above a = b) : M_Model_dries (U_dries (f + 1)) K a x = M_Model_dries (U_dries f) K b x := by
  subst hb
  show (if a = 0 then _ else _) = _
  rw [if_neg h0, if_neg h1, if_neg h4]
  simp only [bsome]
  have e : U_dries (f + 1) (M_Model_above a) x K = M_Model_dries (U_dries f) K (M_Model_above a) x := rfl
  rw [e]
  split
  · rfl
  · split <;> rfl
theorem up_tells {f : Nat} {K : HI} {a b : Int32} (h0 : ¬ a = 0) (h2 : ¬ a = 5) (h3 : ¬ a = 6) (hb : M_Model_above a = b) : M_Model_tells (U_tells (f + 1)) K a x = M_Model_tells (U_tells f) K b x := by
  subst hb
  show (if a = 0 then _ else _) = _
  rw [if_neg h0, if_neg h2, if_neg h3, bsome]
  rfl
/-! draws -/
theorem v_draws0 (hq : q ≠ 86) (x : Int32) (f : Nat) : Vok q s k m (fun J => M_Stroke_draws J q x) (fun K => M_Model_draws (U_draws f) K 0 x) := by
  refine (Vok.run (F := fun J => some (x + J q 0, J)) (G := fun K => some (x + K 88 22, K)) hq 10 (fun J K hv => ⟨x + nI s, J, K, ?_, ?_, hv⟩)).cg (fun J => rfl) (fun K => ?_)
  · show some (x + J q 0, J) = _
    rw [hv.2.1]
  · show some (x + K 88 22, K) = _
    rw [hv.2.2.2.1]
  · show (if (0 : Int32) = 0 then _ else _) = _
    rw [if_pos rfl]
theorem v_black (hq : q ≠ 86) (x : Int32) (f : Nat) : Vok q s k m (fun J => M_Black_draws J q x) (fun K => M_Model_draws (U_draws (f + 1)) K 2 x) := by
  refine (Vok.run hq 30 (Vok.bd (F' := fun p => some (p.1 * 3, p.2)) (G' := fun p => some (p.1 * 3, p.2)) (v_draws0 hq x f) (fun v => Vok.ret (v * 3)))).cg (fun J => rfl) (fun K => ?_)
  show (if (2 : Int32) = 0 then _ else _) = _
  rw [if_neg (by decide), if_pos rfl]
  rfl
theorem v_draws (hq : q ≠ 86) (hk : kc C q = k) (hk7 : k < 7) (x : Int32) : Vok q s k m (fun J => M_Vdraws C J q x) (fun K => M_Model_draws (U_draws 4) K (nI k) x) := by
  have hF : ∀ (F : HI → Option (Int32 × HI)), Vok q s k m F (fun K => M_Model_draws (U_draws 4) K (nI k) x) → (∀ J, M_Vdraws C J q x = F J) → Vok q s k m (fun J => M_Vdraws C J q x) (fun K => M_Model_draws (U_draws 4) K (nI k) x) := fun F h e => h.cg e (fun _ => rfl)
  rcases (show k = 0 ∨ k = 1 ∨ k = 2 ∨ k = 3 ∨ k = 4 ∨ k = 5 ∨ k = 6 by omega) with rfl | rfl | rfl | rfl | rfl | rfl | rfl
  · exact hF _ (v_draws0 hq x 4) (fun J => by unfold M_Vdraws; rw [hk]; rfl)
  · exact hF _ ((v_draws0 hq x 3).cg (fun _ => rfl) (fun K => up_draws (by decide) (by decide) (by decide))) (fun J => by unfold M_Vdraws; rw [hk]; rfl)
  · exact hF _ (v_black hq x 3) (fun J => by unfold M_Vdraws; rw [hk]; rfl)
  · exact hF _ ((v_draws0 hq x 3).cg (fun _ => rfl) (fun K => up_draws (by decide) (by decide) (by decide))) (fun J => by unfold M_Vdraws; rw [hk]; rfl)
  · exact hF _ ((v_draws0 hq x 2).cg (fun _ => rfl) (fun K => (up_draws (b := 1) (by decide) (by decide) (by decide)).trans (up_draws (by decide) (by decide) (by decide)))) (fun J => by unfold M_Vdraws; rw [hk]; rfl)
  · exact hF _ ((v_black hq x 2).cg (fun _ => rfl) (fun K => up_draws (by decide) (by decide) (by decide))) (fun J => by unfold M_Vdraws; rw [hk]; rfl)
  · exact hF _ ((v_draws0 hq x 2).cg (fun _ => rfl) (fun K => (up_draws (b := 3) (by decide) (by decide) (by decide)).trans (up_draws (by decide) (by decide) (by decide)))) (fun J => by unfold M_Vdraws; rw [hk]; rfl)
/-! peels -/
theorem v_peels0 (hq : q ≠ 86) (hs : s < 8) (x : Int32) (f : Nat) : Vok q s k m (fun J => M_Stroke_peels J q x) (fun K => M_Model_peels (U_peels f) K 0 x) := by
  refine (Vok.run (F := fun J => some (x - J q 1, J)) (G := fun K => (M_Model_of K (K 88 22) 1).bind fun p3 => some (x - p3, K)) hq 12 (fun J K hv => ⟨x - m, J, K, ?_, ?_, hv⟩)).cg (fun J => rfl) (fun K => ?_)
  · show some (x - J q 1, J) = _
    rw [hv.2.2.1]
  · show (M_Model_of K (K 88 22) 1).bind _ = _
    rw [hv.2.2.2.1, show M_Model_of K (nI s) 1 = _ from of_m (k := 1) hs (by omega), Option.bind_some, hv.2.2.2.2.2]
  · show (if (0 : Int32) = 0 then _ else _) = _
    rw [if_pos rfl]
theorem v_scratch (hq : q ≠ 86) (hs : s < 8) (x : Int32) (f : Nat) : Vok q s k m (fun J => M_Scratch_peels J q x) (fun K => M_Model_peels (U_peels (f + 1)) K 3 x) := by
  refine (Vok.run hq 40 (Vok.bd (F' := fun p => some (-p.1, p.2)) (G' := fun p => some (-p.1, p.2)) (v_peels0 hq hs x f) (fun v => Vok.ret (-v)))).cg (fun J => rfl) (fun K => ?_)
  show (if (3 : Int32) = 0 then _ else _) = _
  rw [if_neg (by decide), if_pos rfl]
  rfl
theorem v_forged (hq : q ≠ 86) (hs : s < 8) (x : Int32) (f : Nat) : Vok q s k m (fun J => M_Forged_peels J q x) (fun K => M_Model_peels (U_peels (f + 2)) K 6 x) := by
  refine (Vok.run hq 70 (Vok.bd (F' := fun p => some (p.1 ^^^ p.2 q 0, p.2)) (G' := fun p => some (p.1 ^^^ p.2 88 22, p.2)) (v_scratch hq hs x f) (fun v J K hv => ⟨v ^^^ nI s, J, K, ?_, ?_, hv⟩))).cg (fun J => rfl) (fun K => ?_)
  · show some (v ^^^ J q 0, J) = _
    rw [hv.2.1]
  · show some (v ^^^ K 88 22, K) = _
    rw [hv.2.2.2.1]
  · show (if (6 : Int32) = 0 then _ else _) = _
    rw [if_neg (by decide), if_neg (by decide), if_pos rfl]
    rfl
theorem v_peels (hq : q ≠ 86) (hs : s < 8) (hk : kc C q = k) (hk7 : k < 7) (x : Int32) : Vok q s k m (fun J => M_Vpeels C J q x) (fun K => M_Model_peels (U_peels 4) K (nI k) x) := by
  have hF : ∀ (F : HI → Option (Int32 × HI)), Vok q s k m F (fun K => M_Model_peels (U_peels 4) K (nI k) x) → (∀ J, M_Vpeels C J q x = F J) → Vok q s k m (fun J => M_Vpeels C J q x) (fun K => M_Model_peels (U_peels 4) K (nI k) x) := fun F h e => h.cg e (fun _ => rfl)
  rcases (show k = 0 ∨ k = 1 ∨ k = 2 ∨ k = 3 ∨ k = 4 ∨ k = 5 ∨ k = 6 by omega) with rfl | rfl | rfl | rfl | rfl | rfl | rfl
  · exact hF _ (v_peels0 hq hs x 4) (fun J => by unfold M_Vpeels; rw [hk]; rfl)
  · exact hF _ ((v_peels0 hq hs x 3).cg (fun _ => rfl) (fun K => up_peels (by decide) (by decide) (by decide) (by decide))) (fun J => by unfold M_Vpeels; rw [hk]; rfl)
  · exact hF _ ((v_peels0 hq hs x 3).cg (fun _ => rfl) (fun K => up_peels (by decide) (by decide) (by decide) (by decide))) (fun J => by unfold M_Vpeels; rw [hk]; rfl)
  · exact hF _ (v_scratch hq hs x 3) (fun J => by unfold M_Vpeels; rw [hk]; rfl)
  · exact hF _ ((v_peels0 hq hs x 2).cg (fun _ => rfl) (fun K => (up_peels (b := 1) (by decide) (by decide) (by decide) (by decide)).trans (up_peels (by decide) (by decide) (by decide) (by decide)))) (fun J => by unfold M_Vpeels; rw [hk]; rfl)
  · exact hF _ ((v_peels0 hq hs x 2).cg (fun _ => rfl) (fun K => (up_peels (b := 2) (by decide) (by decide) (by decide) (by decide)).trans (up_peels (by decide) (by decide) (by decide) (by decide)))) (fun J => by unfold M_Vpeels; rw [hk]; rfl)
  · exact hF _ (v_forged hq hs x 2) (fun J => by unfold M_Vpeels; rw [hk]; rfl)
/-! dries -/
theorem v_dries0 (hq : q ≠ 86) (hs : s < 8) (hk : kc C q = k) (hk7 : k < 7) (x : Int32) (f : Nat) : Vok q s k m (fun J => M_Stroke_dries C J q x) (fun K => M_Model_dries (U_dries f) K 0 x) := by
  refine (Vok.run hq 11 (Vok.own hs (G' := fun p3 K => (M_Model_draws (U_draws 4) K p3 x).bind fun p => some (p.1 * 2, p.2)) (Vok.bd (F' := fun p => some (p.1 * 2, p.2)) (G' := fun p => some (p.1 * 2, p.2)) (v_draws hq hk hk7 x) (fun v => Vok.ret (v * 2))))).cg (fun J => rfl) (fun K => ?_)
  show (if (0 : Int32) = 0 then _ else _) = _
  rw [if_pos rfl]
theorem v_red (hq : q ≠ 86) (hs : s < 8) (hk : kc C q = k) (hk7 : k = 1 ∨ k = 4) (x : Int32) (f : Nat) : Vok q s k m (fun J => M_Red_dries C J q x) (fun K => M_Model_dries (U_dries (f + 1)) K 1 x) := by
  have hp : Vok q s k m (fun J => M_Stroke_peels J q 1) (fun K => M_Model_peels (U_peels 4) K (nI k) 1) := (v_peels (C := C) (m := m) (s := s) hq hs hk (by omega) 1).cg (fun J => by unfold M_Vpeels; rw [hk]; rcases hk7 with rfl | rfl <;> rfl) (fun _ => rfl)
  refine (Vok.run hq 20 (Vok.bd (F' := fun p2 => (M_Stroke_peels p2.2 q 1).bind fun p3 => some (p2.1 - p3.1, p3.2)) (G' := fun p7 => (M_Model_own p7.2).bind fun p8 => (M_Model_peels (U_peels 4) p7.2 p8 1).bind fun p9 => some (p7.1 - p9.1, p9.2)) (v_dries0 (C := C) hq hs hk (by omega) x f) (fun v => Vok.own hs (G' := fun p8 K => (M_Model_peels (U_peels 4) K p8 1).bind fun p9 => some (v - p9.1, p9.2)) (Vok.bd (F' := fun p => some (v - p.1, p.2)) (G' := fun p => some (v - p.1, p.2)) hp (fun w => Vok.ret (v - w)))))).cg (fun J => rfl) (fun K => ?_)
  show (if (1 : Int32) = 0 then _ else _) = _
  rw [if_neg (by decide), if_pos rfl]
  rfl
theorem v_child (hq : q ≠ 86) (hs : s < 8) (hk : kc C q = k) (hk7 : k = 1 ∨ k = 4) (x : Int32) (f : Nat) : Vok q s k m (fun J => M_Child_dries C J q x) (fun K => M_Model_dries (U_dries (f + 2)) K 4 x) := by
  refine (Vok.run hq 50 (Vok.bd (F' := fun p => some (p.1, p.2)) (G' := fun p => some (p.1, p.2)) (v_red (C := C) hq hs hk hk7 (x + 1) f) (fun v => Vok.ret v))).cg (fun J => rfl) (fun K => ?_)
  show (if (4 : Int32) = 0 then _ else _) = _
  rw [if_neg (by decide), if_neg (by decide), if_neg (by decide), if_neg (by decide), if_pos rfl]
  rfl
theorem v_dries (hq : q ≠ 86) (hs : s < 8) (hk : kc C q = k) (hk7 : k < 7) (x : Int32) : Vok q s k m (fun J => M_Vdries C J q x) (fun K => M_Model_dries (U_dries 4) K (nI k) x) := by
  have hF : ∀ (F : HI → Option (Int32 × HI)), Vok q s k m F (fun K => M_Model_dries (U_dries 4) K (nI k) x) → (∀ J, M_Vdries C J q x = F J) → Vok q s k m (fun J => M_Vdries C J q x) (fun K => M_Model_dries (U_dries 4) K (nI k) x) := fun F h e => h.cg e (fun _ => rfl)
  have h0 := fun f => v_dries0 (C := C) (m := m) hq hs hk hk7 x f
  rcases (show k = 0 ∨ k = 1 ∨ k = 2 ∨ k = 3 ∨ k = 4 ∨ k = 5 ∨ k = 6 by omega) with rfl | rfl | rfl | rfl | rfl | rfl | rfl
  · exact hF _ (h0 4) (fun J => by unfold M_Vdries; rw [hk]; rfl)
  · exact hF _ (v_red (C := C) hq hs hk (Or.inl rfl) x 3) (fun J => by unfold M_Vdries; rw [hk]; rfl)
  · exact hF _ ((h0 3).cg (fun _ => rfl) (fun K => up_dries (by decide) (by decide) (by decide) (by decide))) (fun J => by unfold M_Vdries; rw [hk]; rfl)
  · exact hF _ ((h0 3).cg (fun _ => rfl) (fun K => up_dries (by decide) (by decide) (by decide) (by decide))) (fun J => by unfold M_Vdries; rw [hk]; rfl)
  · exact hF _ (v_child (C := C) hq hs hk (Or.inr rfl) x 2) (fun J => by unfold M_Vdries; rw [hk]; rfl)
  · exact hF _ ((h0 2).cg (fun _ => rfl) (fun K => (up_dries (b := 2) (by decide) (by decide) (by decide) (by decide)).trans (up_dries (by decide) (by decide) (by decide) (by decide)))) (fun J => by unfold M_Vdries; rw [hk]; rfl)
  · exact hF _ ((h0 2).cg (fun _ => rfl) (fun K => (up_dries (b := 3) (by decide) (by decide) (by decide) (by decide)).trans (up_dries (by decide) (by decide) (by decide) (by decide)))) (fun J => by unfold M_Vdries; rw [hk]; rfl)
/-! tells -/
theorem v_tells0 (hq : q ≠ 86) (hs : s < 8) (hk : kc C q = k) (hk7 : k < 7) (x : Int32) (f : Nat) : Vok q s k m (fun J => M_Stroke_tells C J q x) (fun K => M_Model_tells (U_tells f) K 0 x) := by
  refine (Vok.run hq 13 (Vok.own hs (G' := fun p3 K => (M_Model_dries (U_dries 4) K p3 x).bind fun p4 => (M_Model_own p4.2).bind fun p5 => (M_Model_peels (U_peels 4) p4.2 p5 x).bind fun p6 => some (p4.1 ^^^ p6.1, p6.2)) (Vok.bd (F' := fun p2 => (M_Vpeels C p2.2 q x).bind fun p3 => some (p2.1 ^^^ p3.1, p3.2)) (G' := fun p4 => (M_Model_own p4.2).bind fun p5 => (M_Model_peels (U_peels 4) p4.2 p5 x).bind fun p6 => some (p4.1 ^^^ p6.1, p6.2)) (v_dries (C := C) hq hs hk hk7 x) (fun v => Vok.own hs (G' := fun p5 K => (M_Model_peels (U_peels 4) K p5 x).bind fun p6 => some (v ^^^ p6.1, p6.2)) (Vok.bd (F' := fun p => some (v ^^^ p.1, p.2)) (G' := fun p => some (v ^^^ p.1, p.2)) (v_peels (C := C) hq hs hk hk7 x) (fun w => Vok.ret (v ^^^ w))))))).cg (fun J => rfl) (fun K => ?_)
  show (if (0 : Int32) = 0 then _ else _) = _
  rw [if_pos rfl]
theorem v_soot (hq : q ≠ 86) (hs : s < 8) (hk : kc C q = 5) (x : Int32) : Vok q s 5 m (fun J => M_Soot_tells C J q x) (fun K => M_Model_tells (U_tells 4) K (nI 5) x) := by
  have hp : Vok q s 5 m (fun J => M_Black_draws J q 2) (fun K => M_Model_draws (U_draws 4) K (nI 5) 2) := (v_draws (C := C) (m := m) (s := s) hq hk (by omega) 2).cg (fun J => by unfold M_Vdraws; rw [hk]; rfl) (fun _ => rfl)
  have ht : Vok q s 5 m (fun J => M_Stroke_tells C J q x) (fun K => U_tells 4 (M_Model_above 5) x K) := (v_tells0 (C := C) (m := m) hq hs hk (by omega) x 2).cg (fun _ => rfl) (fun K => by
    show M_Model_tells (U_tells 3) K (M_Model_above 5) x = _
    exact up_tells (by decide) (by decide) (by decide) (by decide))
  refine (Vok.run hq 60 (Vok.bd (F' := fun p2 => (M_Black_draws p2.2 q 2).bind fun p3 => some (p2.1 - p3.1, p3.2)) (G' := fun p9 => (M_Model_own p9.2).bind fun p10 => (M_Model_draws (U_draws 4) p9.2 p10 2).bind fun p11 => some (p9.1 - p11.1, p11.2)) ht (fun v => Vok.own hs (G' := fun p10 K => (M_Model_draws (U_draws 4) K p10 2).bind fun p11 => some (v - p11.1, p11.2)) (Vok.bd (F' := fun p => some (v - p.1, p.2)) (G' := fun p => some (v - p.1, p.2)) hp (fun w => Vok.ret (v - w)))))).cg (fun J => rfl) (fun K => ?_)
  show (if nI 5 = 0 then _ else _) = _
  rw [if_neg (by decide), if_pos (show nI 5 = 5 from rfl)]
theorem v_ftells (hq : q ≠ 86) (hs : s < 8) (hk : kc C q = 6) (x : Int32) : Vok q s 6 m (fun J => M_Forged_tells C J q x) (fun K => M_Model_tells (U_tells 4) K (nI 6) x) := by
  have hp : Vok q s 6 m (fun J => M_Stroke_dries C J q x) (fun K => M_Model_dries (U_dries 4) K (nI 6) x) := (v_dries (C := C) (m := m) (s := s) hq hs hk (by omega) x).cg (fun J => by unfold M_Vdries; rw [hk]; rfl) (fun _ => rfl)
  have ht : Vok q s 6 m (fun J => M_Stroke_tells C J q x) (fun K => U_tells 4 (M_Model_above 6) x K) := (v_tells0 (C := C) (m := m) hq hs hk (by omega) x 2).cg (fun _ => rfl) (fun K => by
    show M_Model_tells (U_tells 3) K (M_Model_above 6) x = _
    exact up_tells (by decide) (by decide) (by decide) (by decide))
  refine (Vok.run hq 71 (Vok.own hs (G' := fun p14 K => (M_Model_dries (U_dries 4) K p14 x).bind fun p15 => (U_tells 4 (M_Model_above 6) x p15.2).bind fun p16 => some (p15.1 - p16.1, p16.2)) (Vok.bd (F' := fun p2 => (M_Stroke_tells C p2.2 q x).bind fun p3 => some (p2.1 - p3.1, p3.2)) (G' := fun p15 => (U_tells 4 (M_Model_above 6) x p15.2).bind fun p16 => some (p15.1 - p16.1, p16.2)) hp (fun v => Vok.bd (F' := fun p => some (v - p.1, p.2)) (G' := fun p => some (v - p.1, p.2)) ht (fun w => Vok.ret (v - w)))))).cg (fun J => rfl) (fun K => ?_)
  show (if nI 6 = 0 then _ else _) = _
  rw [if_neg (by decide), if_neg (by decide), if_pos (show nI 6 = 6 from rfl)]
theorem v_tells (hq : q ≠ 86) (hs : s < 8) (hk : kc C q = k) (hk7 : k < 7) (x : Int32) : Vok q s k m (fun J => M_Vtells C J q x) (fun K => M_Model_tells (U_tells 4) K (nI k) x) := by
  have hF : ∀ (F : HI → Option (Int32 × HI)), Vok q s k m F (fun K => M_Model_tells (U_tells 4) K (nI k) x) → (∀ J, M_Vtells C J q x = F J) → Vok q s k m (fun J => M_Vtells C J q x) (fun K => M_Model_tells (U_tells 4) K (nI k) x) := fun F h e => h.cg e (fun _ => rfl)
  have h0 := fun f => v_tells0 (C := C) (m := m) hq hs hk hk7 x f
  rcases (show k = 0 ∨ k = 1 ∨ k = 2 ∨ k = 3 ∨ k = 4 ∨ k = 5 ∨ k = 6 by omega) with rfl | rfl | rfl | rfl | rfl | rfl | rfl
  · exact hF _ (h0 4) (fun J => by unfold M_Vtells; rw [hk]; rfl)
  · exact hF _ ((h0 3).cg (fun _ => rfl) (fun K => up_tells (by decide) (by decide) (by decide) (by decide))) (fun J => by unfold M_Vtells; rw [hk]; rfl)
  · exact hF _ ((h0 3).cg (fun _ => rfl) (fun K => up_tells (by decide) (by decide) (by decide) (by decide))) (fun J => by unfold M_Vtells; rw [hk]; rfl)
  · exact hF _ ((h0 3).cg (fun _ => rfl) (fun K => up_tells (by decide) (by decide) (by decide) (by decide))) (fun J => by unfold M_Vtells; rw [hk]; rfl)
  · exact hF _ ((h0 2).cg (fun _ => rfl) (fun K => (up_tells (b := 1) (by decide) (by decide) (by decide) (by decide)).trans (up_tells (by decide) (by decide) (by decide) (by decide)))) (fun J => by unfold M_Vtells; rw [hk]; rfl)
  · exact hF _ (v_soot (C := C) hq hs hk x) (fun J => by unfold M_Vtells; rw [hk]; rfl)
  · exact hF _ (v_ftells (C := C) hq hs hk x) (fun J => by unfold M_Vtells; rw [hk]; rfl)
end RV
section RVW
variable {B L : Nat} {xs : Nat → Int32} {C : HC} {I J K : HI}
/-- only the trace changes -/
theorem Rel.upR (h : Rel B L xs C I) (ec : ∀ c, c ≠ 86 → c ≠ 88 → c ≠ 102 → K c = I c) (h2 : K 88 2 = I 88 2) (hZ : TR K) : Rel B L xs C K := by
  obtain ⟨r1, r2, r3, r4, r5, r6, r7, r8, r9, r10⟩ := h
  have hst : ∀ q, gS C q = true → K q = I q := fun q hq => ec q (st_ne hq (by decide) (by decide)) (st_ne hq (by decide) (by decide)) (st_ne hq (by decide) (by decide))
  have e89 := ec 89 (by decide) (by decide) (by decide)
  have e90 := ec 90 (by decide) (by decide) (by decide)
  refine ⟨r1, by rw [e89]; exact r2, ?_, by rw [ec 0 (by decide) (by decide) (by decide), h2]; exact r4, fun hne => ?_, fun k hk => by rw [ec 87 (by decide) (by decide) (by decide), ec 91 (by decide) (by decide) (by decide)]; exact r6 k hk, hZ, ?_, ?_, by rw [ec 1000000 (by decide) (by decide) (by decide)]; exact r10⟩
  · rw [e89]
    exact r3.fr (fun c hm => by
      have : ∀ c, c ∈ wcs 1 → c ≠ 86 ∧ c ≠ 88 ∧ c ≠ 102 := by decide
      exact ec c (this c hm).1 (this c hm).2.1 (this c hm).2.2) (fun s hs => hst _ (r1.2.2.1 s (by have := r2.1.2; omega)).1)
  · obtain ⟨g1, g2⟩ := r5 (by rw [← h2]; exact hne)
    rw [e90]
    exact ⟨g1, g2.fr (fun c hm => by
      have : ∀ c, c ∈ wcs 32 → c ≠ 86 ∧ c ≠ 88 ∧ c ≠ 102 := by decide
      exact ec c (this c hm).1 (this c hm).2.1 (this c hm).2.2) (fun s hs => hst _ (r1.2.2.1 s (by have := g1.1.2; omega)).2)⟩
  · intro s hs
    rw [ec 84 (by decide) (by decide) (by decide), ec 103 (by decide) (by decide) (by decide), ec 85 (by decide) (by decide) (by decide), ec 104 (by decide) (by decide) (by decide), ec 105 (by decide) (by decide) (by decide), ec (80 + s) (by omega) (by omega) (by omega)]
    exact r8 s hs
  · unfold MP
    rw [ec 1000001 (by decide) (by decide) (by decide)]
    exact r9
theorem voice_ok (h : Rel B L xs C I) {s : Nat} (hs : s < nS (I 89)) {F G : HI → Option (Int32 × HI)} (hv : Vok (hT C s) s (kc C (hT C s)) (I 89 (5 + 7 * s + 1)) F G) (wF : ∀ J r, F J = some r → fr [86] J r.2) (wG : ∀ J r, G J = some r → fr [88, 102] J r.2) (vG : ∀ J r, G J = some r → fk [21] J r.2) : OK1 B L xs C (F (xu I 86 0 0)) (fun J => G (xu (xu J 88 21 0) 88 22 (nI s))) := by
  have n8 := h.n8
  obtain ⟨hws, r1, r2, r3⟩ := h.za.1.2.1 s hs
  have hg := h.gT (s := s) (by omega)
  have hq : hT C s ≠ 86 := st_ne hg (by decide) (by decide)
  have hV : ∀ K : HI, K 89 = I 89 → VS (hT C s) s (kc C (hT C s)) (I 89 (5 + 7 * s + 1)) (xu I 86 0 0) (xu (xu K 88 21 0) 88 22 (nI s)) := by
    intro K hK
    refine ⟨⟨0, by omega, by rw [xu_rr]; rfl, by rw [xu_rn (by decide), xu_rr]; rfl, fun j hj => by omega⟩, by rw [xu_qn hq]; exact r2, by rw [xu_qn hq]; exact r3 1 (by omega) (by omega), by rw [xu_rr], ?_, ?_⟩
    · rw [xu_qn (by decide), xu_qn (by decide), hK]; exact r1
    · rw [xu_qn (by decide), xu_qn (by decide), hK]
  obtain ⟨v, J', K0, a1, -, -⟩ := hv _ _ (hV I rfl)
  have fJ : fr [86] _ J' := wF _ _ a1
  have hJ : ∀ c, c ≠ 86 → J' c = I c := fun c hc => by rw [fJ c (by simp [hc]), xu_ne hc]
  obtain ⟨v', J2, K', b1, b2, b3⟩ := hv _ _ (hV J' (hJ 89 (by decide)))
  rw [a1] at b1
  have e := Option.some.inj b1
  have e1 : v = v' := congrArg (fun p => p.1) e
  have e2 : J' = J2 := congrArg (fun p => p.2) e
  subst e1
  subst e2
  have fK : fr [88, 102] _ K' := wG _ _ b2
  have gK : fk [21] _ K' := vG _ _ b2
  have hK : ∀ c, c ≠ 88 → c ≠ 102 → K' c = J' c := fun c c1 c2 => by rw [fK c (by simp [c1, c2]), xu_ne c1, xu_ne c1]
  refine ⟨v, J', K', a1, b2, h.upR (fun c c1 c2 c3 => by rw [hK c c2 c3, hJ c c1]) ?_ ?_⟩
  · rw [gK 2 (by decide), xu_rn (by decide), xu_rn (by decide), hJ 88 (by decide)]
  · obtain ⟨⟨t, t1, t2, t3, t4⟩, -⟩ := b3
    exact ⟨t, t1, by rw [hK 86 (by decide) (by decide)]; exact t2, t3, fun j hj => by rw [hK 86 (by decide) (by decide)]; exact t4 j hj⟩
theorem ok_voice (h : Rel B L xs C I) (x y w : Int32) : OK1 B L xs C (M_H_voice C I x y w) (fun J => M_Model_voice J x y w) := by
  have n8 := h.n8
  unfold M_H_voice M_Model_voice
  simp only [bsome, lt_def, in_nat y (a := 0) (b := 3) (by decide) (by decide), within_eq]
  rcases ix_case x (nS (I 89)) (by omega) with ⟨s, hs, rfl⟩ | hx
  · rw [hasS_y (st_nI h) (by omega) hs, if_neg one0, nI_clamp (by omega)]
    have hg := h.gT (s := s) (by omega)
    have hq : hT C s ≠ 86 := st_ne hg (by decide) (by decide)
    have hk7 := gS_k hg
    obtain ⟨hws, r1, r2, r3⟩ := h.za.1.2.1 s hs
    have hS : ∀ J : HI, J 89 = I 89 → M_Model_isStroke J (nI s) = 1 := fun J hJ => isS_y (n := nS (I 89)) (by rw [hJ]; exact mS_nI h) (by omega) hs
    have hb : (bnd (nI s) 8 && gS C (hT C s)) = true := by rw [hg, bnd_nI (by omega) (by omega)]; rfl
    simp only [grd_t hb]
    by_cases hy : ((0 : Nat) : Int) ≤ y.toInt ∧ y.toInt ≤ ((3 : Nat) : Int)
    · have hy' : 0 ≤ y.toInt ∧ y.toInt ≤ (3 : Int32).toInt := hy
      simp only [if_pos hy, if_pos hy', if_neg one0]
      obtain ⟨a, ha, rfl⟩ : ∃ a : Nat, (a ≤ 3) ∧ y = nI a := ⟨y.toInt.toNat, by omega, i_nI (by omega)⟩
      have own : ∀ J : HI, J 89 = I 89 → M_Model_own (xu (xu J 88 21 0) 88 22 (nI s)) = some (nI (kc C (hT C s))) := by
        intro J hJ
        unfold M_Model_own
        rw [xu_rr, show M_Model_of (xu (xu J 88 21 0) 88 22 (nI s)) (nI s) 0 = _ from of_m (k := 0) (by omega) (by omega), Option.bind_some, xu_qn (by decide), xu_qn (by decide), hJ]
        exact congrArg some r1
      -- one act
      have act : ∀ (F : HI → Option (Int32 × HI)) (G : HI → Option (Int32 × HI)) (M : HI → Option (Int32 × HI)), (∀ J : HI, J 89 = I 89 → M J = G (xu (xu J 88 21 0) 88 22 (nI s))) → Vok (hT C s) s (kc C (hT C s)) (I 89 (5 + 7 * s + 1)) F G → (∀ J r, F J = some r → CHandOverHorseLaw_law_r6034_3da50c.fr [86] J r.2) → (∀ J r, G J = some r → CHandOverHorseLaw_law_r6034_3da50c.fr [88, 102] J r.2) → (∀ J r, G J = some r → fk [21] J r.2) → OK1 B L xs C (F (xu I 86 0 0)) M := by
        intro F G M hM hv wF wG vG
        obtain ⟨v, J, K, k1, k2, k3⟩ := voice_ok h hs hv wF wG vG
        exact ⟨v, J, K, k1, by rw [hM J (by have : CHandOverHorseLaw_law_r6034_3da50c.fr [86] _ J := wF _ _ k1; rw [this 89 (by decide), xu_ne (by decide)])]; exact k2, k3⟩
      rcases (show a = 0 ∨ a = 1 ∨ a = 2 ∨ a = 3 by omega) with rfl | rfl | rfl | rfl
      · rw [if_pos (show nI 0 = 0 from rfl)]
        refine act (fun J => M_Vdraws C J (hT C s) w) (fun K => M_Model_draws (U_draws 4) K (nI (kc C (hT C s))) w) _ (fun J hJ => ?_) (v_draws hq rfl hk7 w) (fun J r hr => w_Vdraws hr) (fun J r hr => w_Model_draws (w_U_draws 4) hr) (fun J r hr => v_Model_draws (v_U_draws 4) hr)
        show (if M_Model_isStroke J (nI s) = 0 then _ else _) = _
        rw [hS J hJ, if_neg one0, own J hJ, Option.bind_some, if_pos (show nI 0 = 0 from rfl)]
      · rw [if_neg (show ¬ nI 1 = 0 by decide), if_pos (show nI 1 = 1 from rfl)]
        refine act (fun J => M_Vdries C J (hT C s) w) (fun K => M_Model_dries (U_dries 4) K (nI (kc C (hT C s))) w) _ (fun J hJ => ?_) (v_dries hq (by omega) rfl hk7 w) (fun J r hr => w_Vdries hr) (fun J r hr => w_Model_dries (w_U_dries 4) hr) (fun J r hr => v_Model_dries (v_U_dries 4) hr)
        show (if M_Model_isStroke J (nI s) = 0 then _ else _) = _
        rw [hS J hJ, if_neg one0, own J hJ, Option.bind_some, if_neg (show ¬ nI 1 = 0 by decide), if_pos (show nI 1 = 1 from rfl)]
      · rw [if_neg (show ¬ nI 2 = 0 by decide), if_neg (show ¬ nI 2 = 1 by decide), if_pos (show nI 2 = 2 from rfl)]
        refine act (fun J => M_Vpeels C J (hT C s) w) (fun K => M_Model_peels (U_peels 4) K (nI (kc C (hT C s))) w) _ (fun J hJ => ?_) (v_peels hq (by omega) rfl hk7 w) (fun J r hr => w_Vpeels hr) (fun J r hr => w_Model_peels (w_U_peels 4) hr) (fun J r hr => v_Model_peels (v_U_peels 4) hr)
        show (if M_Model_isStroke J (nI s) = 0 then _ else _) = _
        rw [hS J hJ, if_neg one0, own J hJ, Option.bind_some, if_neg (show ¬ nI 2 = 0 by decide), if_neg (show ¬ nI 2 = 1 by decide), if_pos (show nI 2 = 2 from rfl)]
      · rw [if_neg (show ¬ nI 3 = 0 by decide), if_neg (show ¬ nI 3 = 1 by decide), if_neg (show ¬ nI 3 = 2 by decide)]
        refine act (fun J => M_Vtells C J (hT C s) w) (fun K => M_Model_tells (U_tells 4) K (nI (kc C (hT C s))) w) _ (fun J hJ => ?_) (v_tells hq (by omega) rfl hk7 w) (fun J r hr => w_Vtells hr) (fun J r hr => w_Model_tells (w_U_tells 4) hr) (fun J r hr => v_Model_tells (v_U_tells 4) hr)
        show (if M_Model_isStroke J (nI s) = 0 then _ else _) = _
        rw [hS J hJ, if_neg one0, own J hJ, Option.bind_some, if_neg (show ¬ nI 3 = 0 by decide), if_neg (show ¬ nI 3 = 1 by decide), if_neg (show ¬ nI 3 = 2 by decide)]
    · have hy' : ¬ (0 ≤ y.toInt ∧ y.toInt ≤ (3 : Int32).toInt) := hy
      simp only [if_neg hy, if_neg hy', if_pos rfl]
      refine err_ok0 1 (by decide) (by decide) h rfl ?_
      rw [hS _ e89, if_neg one0]; rfl
  · refine err_ok0 1 (by decide) (by decide) h ?_ ?_
    · rw [hasS_n (st_nI h) (by omega) hx, if_pos rfl]; rfl
    · show (if M_Model_isStroke _ x = 0 then _ else _) = _
      rw [isS_n (n := nS (I 89)) (by rw [e89]; exact mS_nI h) (by omega) hx, if_pos rfl]; rfl
end RVW
