section RZ
variable {B L : Nat} {xs : Nat → Int32} {C : HC} {I J K : HI} {D : Nat → Int32}
theorem vkind (q : Nat) (h : kc C q < 7) : M_Vkind C q = nI (kc C q) := by
  unfold M_Vkind
  generalize kc C q = k at *
  rcases (show k = 0 ∨ k = 1 ∨ k = 2 ∨ k = 3 ∨ k = 4 ∨ k = 5 ∨ k = 6 by omega) with rfl | rfl | rfl | rfl | rfl | rfl | rfl <;> rfl
theorem of_m {s k : Nat} (hs : s < 8) (hk : k < 7) : M_Model_of I (nI s) (nI k) = some (I 89 (5 + 7 * s + k)) := by
  unfold M_Model_of
  have e : (5 : Int32) + (7 : Int32) * nI s + nI k = nI (5 + 7 * s + k) := by
    rw [show (5 : Int32) = nI 5 from rfl, show (7 : Int32) = nI 7 from rfl, pk_mul, nI_add, nI_add]
  rw [e, grd_t (bnd_nI (by omega) (by omega)), nI_clamp (by omega)]
theorem upper_m {l : Nat} (hl : l < 12) : M_Model_upper I (nI l) = some (I 89 (61 + 3 * l)) := by
  unfold M_Model_upper
  have e : (61 : Int32) + (3 : Int32) * nI l = nI (61 + 3 * l) := by
    rw [show (61 : Int32) = nI 61 from rfl, show (3 : Int32) = nI 3 from rfl, pk_mul, nI_add]
  rw [e, grd_t (bnd_nI (by omega) (by omega)), nI_clamp (by omega)]
theorem lk_ix (l k : Nat) : (61 : Int32) + (3 : Int32) * nI l + nI k = nI (61 + 3 * l + k) := by
  rw [show (61 : Int32) = nI 61 from rfl, show (3 : Int32) = nI 3 from rfl, pk_mul, nI_add, nI_add]
theorem lower_m {l : Nat} (hl : l < 12) : M_Model_lower I (nI l) = some (I 89 (61 + 3 * l + 1)) := by
  unfold M_Model_lower
  rw [show (1 : Int32) = nI 1 from rfl, lk_ix, grd_t (bnd_nI (by omega) (by omega)), nI_clamp (by omega)]
/-- the upper and the lower stroke of a look -/
def uL (D : Nat → Int32) (l : Nat) : Nat := (D (61 + 3 * l)).toNatClampNeg
def lL (D : Nat → Int32) (l : Nat) : Nat := (D (61 + 3 * l + 1)).toNatClampNeg
theorem uL_eq (h : WD D) {l : Nat} (hl : l < nL D) : D (61 + 3 * l) = nI (uL D l) ∧ D (61 + 3 * l + 1) = nI (lL D l) ∧ uL D l < nS D ∧ lL D l < nS D ∧ uL D l ≠ lL D l := by
  obtain ⟨u, w, a, g1, g2, g3, g4, g5, g6, g7, g8⟩ := h.2.2.2.2.2.1 l hl
  have := h.1.2
  have e1 : uL D l = u := by unfold uL; rw [g6, nI_clamp (by omega)]
  have e2 : lL D l = w := by unfold lL; rw [g7, nI_clamp (by omega)]
  rw [e1, e2]
  exact ⟨g6, g7, g1, g2, g3⟩
/-- a look's weight -/
def wgt (D : Nat → Int32) (l : Nat) : Int32 := giv D 1 (D (61 + 3 * l + 2)) (D (5 + 7 * uL D l)) (D (5 + 7 * uL D l + 6)) 0
theorem giv_rg {u : Nat} {a b c d : Int32} : (u = 1 → rg (giv D u a b c d) 999) ∧ (u = 0 → -999 ≤ (giv D u a b c d).toInt ∧ (giv D u a b c d).toInt ≤ 999) := by
  have hh : ∀ v lo hi : Int32, lo.toInt ≤ hi.toInt → lo.toInt ≤ (M_Model_held v lo hi).toInt ∧ (M_Model_held v lo hi).toInt ≤ hi.toInt := by
    intro v lo hi h
    unfold M_Model_held
    simp only [i_le, i_lt]
    repeat' split
    all_goals omega
  unfold giv
  constructor
  · rintro rfl
    simp only [if_neg (show ¬ (1 : Nat) = 0 by decide)]
    rw [rg_iff (by decide)]
    exact hh _ 0 999 (by decide)
  · rintro rfl
    simp only [if_pos rfl]
    exact hh _ (-999) 999 (by decide)
theorem wgt_rg (l : Nat) : rg (wgt D l) 999 := giv_rg.1 rfl
theorem weight_c (h : Rel B L xs C I) (hc : ∀ c, c ∉ SCR → J c = I c) {l : Nat} (hl : l < nL (I 89)) : ∃ K, M_Wall_weightOf C J (nI l) = some (wgt (I 89) l, K) ∧ fr [19, 24] J K := by
  obtain ⟨z1, z2, z3, z4, z5, z6⟩ := h.za
  have l12 := z2.1.2
  have n8 := h.n8
  obtain ⟨g1, g2, g3, g4, g5⟩ := uL_eq h.2.1 hl
  obtain ⟨-, y1, y2, y3⟩ := z2.2.1 l hl
  have hs := (z1.2.1 _ g3).2
  have hg := h.gT (s := uL (I 89) l) (by omega)
  unfold M_Wall_weightOf
  rw [nI_clamp (by omega), grd_t (bnd_nI (by omega) (by omega)), hc 11 (by decide), hc 13 (by decide), show I 11 l = nI (uL (I 89) l) from y1.trans g1, nI_clamp (by omega), hg, bnd_nI (by omega) (by omega), Bool.and_self]
  rw [grd_t rfl, hc _ (st_scr hg), vkind _ (gS_k hg), ← hs.1, hs.2.2 6 (by omega) (by omega), show I 13 l = I 89 (61 + 3 * l + 2) from y3]
  obtain ⟨K, k1, k2⟩ := givenBy_c (I := J) (D := I 89) (u := 1) (a := I 89 (61 + 3 * l + 2)) (b := I 89 (5 + 7 * uL (I 89) l)) (c := I 89 (5 + 7 * uL (I 89) l + 6)) (d := 0) (by decide) z5.2.1 (fun e => absurd e (by decide)) (fun _ => z5.2.2.2.fr (hc _ (by decide)) (hc _ (by decide)) (hc _ (by decide)))
  rw [show (1 : Int32) = nI 1 from rfl, k1, Option.bind_some]
  exact ⟨K, rfl, k2⟩
theorem weight_m (hD : WD (I 89)) {l : Nat} (hl : l < nL (I 89)) : ∃ K, M_Model_weightOf I (nI l) = some (wgt (I 89) l, K) := by
  have l12 := hD.2.1.2
  have n8 := hD.1.2
  obtain ⟨g1, g2, g3, g4, g5⟩ := uL_eq hD hl
  unfold M_Model_weightOf
  rw [show (2 : Int32) = nI 2 from rfl, lk_ix, grd_t (bnd_nI (by omega) (by omega)), nI_clamp (by omega), upper_m (by omega), Option.bind_some, g1, show (0 : Int32) = nI 0 from rfl, of_m (by omega) (by omega), Option.bind_some, Option.bind_some, show (6 : Int32) = nI 6 from rfl, of_m (by omega) (by omega), Option.bind_some]
  obtain ⟨K, k1⟩ := gives_m (I := I) (u := 1) (a := I 89 (61 + 3 * l + 2)) (b := I 89 (5 + 7 * uL (I 89) l + 0)) (c := I 89 (5 + 7 * uL (I 89) l + 6)) (d := nI 0) (by decide) hD.2.2.2.2.2.2.2.2
  rw [show (1 : Int32) = nI 1 from rfl, k1, Option.bind_some]
  exact ⟨K, rfl⟩
/-- a stroke's years -/
def dts (D : Nat → Int32) (s : Nat) : Int32 := giv D 0 (D (5 + 7 * s + 6)) (D (5 + 7 * s + 1)) (D (5 + 7 * s)) (D (5 + 7 * s + 3))
def kd (D : Nat → Int32) (s : Nat) : Nat := (D (5 + 7 * s)).toNatClampNeg
def e0 (D : Nat → Int32) (s : Nat) : Int32 := match kd D s with
  | 0 => D (5 + 7 * s + 4)
  | 1 => D (5 + 7 * s + 4) + D (5 + 7 * s + 1)
  | 2 => D (5 + 7 * s + 4)
  | 3 => D (5 + 7 * s + 4) - 10 * D (5 + 7 * s + 1)
  | 4 => D (5 + 7 * s + 4) + (D (5 + 7 * s + 1) + 50)
  | 5 => D (5 + 7 * s + 4) + D (5 + 7 * s + 6)
  | _ => if 5000 ≤ D (5 + 7 * s + 4) - 10 * D (5 + 7 * s + 1) then D (5 + 7 * s + 4) - 10 * D (5 + 7 * s + 1) else 5000
def l0 (D : Nat → Int32) (s : Nat) : Int32 := match kd D s with
  | 0 => D (5 + 7 * s + 5)
  | 1 => D (5 + 7 * s + 5)
  | 2 => D (5 + 7 * s + 5) - D (5 + 7 * s + 6)
  | 3 => D (5 + 7 * s + 5)
  | 4 => D (5 + 7 * s + 5) - D (5 + 7 * s + 1)
  | 5 => D (5 + 7 * s + 5) - 2 * D (5 + 7 * s + 6)
  | _ => 9999
def eY (D : Nat → Int32) (s : Nat) : Int32 := M_Model_held (e0 D s + dts D s) 0 9999
def lY (D : Nat → Int32) (s : Nat) : Int32 := M_Model_held (l0 D s + dts D s) 0 9999
theorem held_rg (v : Int32) : rg (M_Model_held v 0 9999) 9999 := by
  rw [rg_iff (by decide)]
  unfold M_Model_held
  simp only [i_le, i_lt]
  have a : (0 : Int32).toInt = 0 := rfl
  have b : (9999 : Int32).toInt = 9999 := rfl
  repeat' split
  all_goals omega
theorem eY_rg (s : Nat) : rg (eY D s) 9999 := held_rg _
theorem lY_rg (s : Nat) : rg (lY D s) 9999 := held_rg _
theorem kd_eq {s : Nat} (h : wS D s) : D (5 + 7 * s) = nI (kd D s) ∧ kd D s < 7 := by
  obtain ⟨⟨k, h1, h2⟩, -⟩ := h
  have : kd D s = k := by unfold kd; rw [h2, nI_clamp (by omega)]
  rw [this]
  exact ⟨h2, h1⟩
theorem dates_m (hD : WD (I 89)) {s : Nat} (hs : s < nS (I 89)) : ∃ K, M_Model_dates I (nI s) = some (dts (I 89) s, K) := by
  have n8 := hD.1.2
  unfold M_Model_dates
  rw [show (6 : Int32) = nI 6 from rfl, show (1 : Int32) = nI 1 from rfl, show (3 : Int32) = nI 3 from rfl]
  simp only [show (0 : Int32) = nI 0 from rfl]
  rw [of_m (by omega) (by omega), Option.bind_some, of_m (by omega) (by omega), Option.bind_some, of_m (by omega) (by omega), Option.bind_some, of_m (by omega) (by omega), Option.bind_some]
  obtain ⟨K, k1⟩ := gives_m (I := I) (u := 0) (a := I 89 (5 + 7 * s + 6)) (b := I 89 (5 + 7 * s + 1)) (c := I 89 (5 + 7 * s + 0)) (d := I 89 (5 + 7 * s + 3)) (by decide) hD.2.2.2.2.2.2.2.1
  rw [k1, Option.bind_some]
  exact ⟨K, rfl⟩
theorem early_m (hD : WD (I 89)) {s : Nat} (hs : s < nS (I 89)) : ∃ K, M_Model_earlyOf I (nI s) = some (eY (I 89) s, K) := by
  have n8 := hD.1.2
  obtain ⟨k1, k2⟩ := kd_eq (hD.2.2.2.2.1 s hs)
  obtain ⟨K, hK⟩ := dates_m hD hs
  unfold M_Model_earlyOf
  rw [show M_Model_of I (nI s) 4 = _ from of_m (k := 4) (by omega) (by omega), Option.bind_some, show M_Model_of I (nI s) 1 = _ from of_m (k := 1) (by omega) (by omega), Option.bind_some, show M_Model_of I (nI s) 0 = _ from of_m (k := 0) (by omega) (by omega), Option.bind_some, show M_Model_of I (nI s) 6 = _ from of_m (k := 6) (by omega) (by omega), Option.bind_some, hK]
  simp only [Option.bind_some, Nat.add_zero]
  refine ⟨K, ?_⟩
  unfold eY e0
  rw [k1]
  generalize kd (I 89) s = k at *
  rcases (show k = 0 ∨ k = 1 ∨ k = 2 ∨ k = 3 ∨ k = 4 ∨ k = 5 ∨ k = 6 by omega) with rfl | rfl | rfl | rfl | rfl | rfl | rfl
  · rfl
  · rfl
  · rfl
  · rfl
  · rfl
  · rfl
  · simp only [if_neg (show ¬ nI 6 = 1 by decide), if_neg (show ¬ nI 6 = 2 by decide), if_neg (show ¬ nI 6 = 3 by decide), if_neg (show ¬ nI 6 = 4 by decide), if_neg (show ¬ nI 6 = 5 by decide), if_pos (show nI 6 = 6 from rfl)]
    split <;> rfl
theorem late_m (hD : WD (I 89)) {s : Nat} (hs : s < nS (I 89)) : ∃ K, M_Model_lateOf I (nI s) = some (lY (I 89) s, K) := by
  have n8 := hD.1.2
  obtain ⟨k1, k2⟩ := kd_eq (hD.2.2.2.2.1 s hs)
  obtain ⟨K, hK⟩ := dates_m hD hs
  unfold M_Model_lateOf
  rw [show M_Model_of I (nI s) 5 = _ from of_m (k := 5) (by omega) (by omega), Option.bind_some, show M_Model_of I (nI s) 1 = _ from of_m (k := 1) (by omega) (by omega), show M_Model_of I (nI s) 0 = _ from of_m (k := 0) (by omega) (by omega), Option.bind_some, show M_Model_of I (nI s) 6 = _ from of_m (k := 6) (by omega) (by omega), hK]
  simp only [Option.bind_some, Nat.add_zero]
  refine ⟨K, ?_⟩
  unfold lY l0
  rw [k1]
  generalize kd (I 89) s = k at *
  rcases (show k = 0 ∨ k = 1 ∨ k = 2 ∨ k = 3 ∨ k = 4 ∨ k = 5 ∨ k = 6 by omega) with rfl | rfl | rfl | rfl | rfl | rfl | rfl <;> rfl
theorem years_c (h : Rel B L xs C I) (hc : ∀ c, c ∉ SCR → J c = I c) {s : Nat} (hs : s < nS (I 89)) : ∃ K, M_Wall_datesOf C J (nI s) = some (dts (I 89) s, K) ∧ fr [19, 24] J K := by
  obtain ⟨z1, z2, z3, z4, z5, z6⟩ := h.za
  have n8 := h.n8
  have hr := (z1.2.1 _ hs).2
  have hg := h.gT (s := s) (by omega)
  unfold M_Wall_datesOf
  rw [nI_clamp (by omega), hg, bnd_nI (by omega) (by omega), Bool.and_self, grd_t rfl, hc _ (st_scr hg), vkind _ (gS_k hg), ← hr.1, hr.2.2 6 (by omega) (by omega), hr.2.2 1 (by omega) (by omega), hr.2.2 3 (by omega) (by omega)]
  obtain ⟨K, k1, k2⟩ := givenBy_c (I := J) (D := I 89) (u := 0) (a := I 89 (5 + 7 * s + 6)) (b := I 89 (5 + 7 * s + 1)) (c := I 89 (5 + 7 * s)) (d := I 89 (5 + 7 * s + 3)) (by decide) z5.1 (fun _ => z5.2.2.1.fr (hc _ (by decide)) (hc _ (by decide)) (hc _ (by decide))) (fun e => absurd e (by decide))
  rw [show (0 : Int32) = nI 0 from rfl, k1, Option.bind_some]
  exact ⟨K, rfl, k2⟩
theorem early_c (h : Rel B L xs C I) (hc : ∀ c, c ∉ SCR → J c = I c) {s : Nat} (hs : s < nS (I 89)) : ∃ K, M_Wall_earlyOf C J (nI s) = some (eY (I 89) s, K) ∧ fr [19, 24] J K := by
  obtain ⟨z1, z2, z3, z4, z5, z6⟩ := h.za
  have n8 := h.n8
  have hr := (z1.2.1 _ hs).2
  have hg := h.gT (s := s) (by omega)
  obtain ⟨k1, k2⟩ := kd_eq (h.2.1.2.2.2.2.1 s hs)
  obtain ⟨K, q1, q2⟩ := years_c h hc hs
  unfold M_Wall_earlyOf
  rw [nI_clamp (by omega), hg, bnd_nI (by omega) (by omega), Bool.and_self, grd_t rfl, q1, Option.bind_some]
  refine ⟨K, ?_, q2⟩
  rw [held_eq (by decide)]
  unfold eY
  have hk : kd (I 89) s = kc C (hT C s) := by
    have := k1.symm.trans hr.1
    exact (nI_eq (by omega) (by have := gS_k hg; omega)).mp this
  have hv : M_Vearly C J (hT C s) = e0 (I 89) s := by
    unfold M_Vearly M_Forged_early M_Soot_early M_Child_early M_Scratch_early M_Red_early M_Stroke_early e0 mmax
    rw [hc _ (st_scr hg), hr.2.2 6 (by omega) (by omega), hr.2.2 1 (by omega) (by omega), hr.2.2 4 (by omega) (by omega), ← hk]
    generalize kd (I 89) s = k at *
    rcases (show k = 0 ∨ k = 1 ∨ k = 2 ∨ k = 3 ∨ k = 4 ∨ k = 5 ∨ k = 6 by omega) with rfl | rfl | rfl | rfl | rfl | rfl | rfl
    · rfl
    · rfl
    · rfl
    · rfl
    · show _ + _ + _ = _ + (_ + _)
      exact Int32.add_assoc _ _ _
    · rfl
    · show (if _ < _ then _ else _) = if _ ≤ _ then _ else _
      simp only [i_lt, i_le]
      by_cases hx : (5000 : Int32).toInt ≤ (I 89 (5 + 7 * s + 4) - 10 * I 89 (5 + 7 * s + 1)).toInt
      · rw [if_pos hx, if_neg (by omega)]
      · rw [if_neg hx, if_pos (by omega)]
  rw [hv]
theorem late_c (h : Rel B L xs C I) (hc : ∀ c, c ∉ SCR → J c = I c) {s : Nat} (hs : s < nS (I 89)) : ∃ K, M_Wall_lateOf C J (nI s) = some (lY (I 89) s, K) ∧ fr [19, 24] J K := by
  obtain ⟨z1, z2, z3, z4, z5, z6⟩ := h.za
  have n8 := h.n8
  have hr := (z1.2.1 _ hs).2
  have hg := h.gT (s := s) (by omega)
  obtain ⟨k1, k2⟩ := kd_eq (h.2.1.2.2.2.2.1 s hs)
  obtain ⟨K, q1, q2⟩ := years_c h hc hs
  unfold M_Wall_lateOf
  rw [nI_clamp (by omega), hg, bnd_nI (by omega) (by omega), Bool.and_self, grd_t rfl, q1, Option.bind_some]
  refine ⟨K, ?_, q2⟩
  rw [held_eq (by decide)]
  unfold lY
  have hk : kd (I 89) s = kc C (hT C s) := by
    have := k1.symm.trans hr.1
    exact (nI_eq (by omega) (by have := gS_k hg; omega)).mp this
  have hv : M_Vlate C J (hT C s) = l0 (I 89) s := by
    unfold M_Vlate M_Forged_late M_Soot_late M_Child_late M_Black_late M_Stroke_late l0
    rw [hc _ (st_scr hg), hr.2.2 6 (by omega) (by omega), hr.2.2 1 (by omega) (by omega), hr.2.2 5 (by omega) (by omega), ← hk]
    generalize kd (I 89) s = k at *
    rcases (show k = 0 ∨ k = 1 ∨ k = 2 ∨ k = 3 ∨ k = 4 ∨ k = 5 ∨ k = 6 by omega) with rfl | rfl | rfl | rfl | rfl | rfl | rfl
    · rfl
    · rfl
    · rfl
    · rfl
    · rfl
    · show _ - _ - _ = _ - 2 * _
      have : ∀ a b : Int32, a - b - b = a - 2 * b := fun a b => by
        rw [show (2 : Int32) * b = b + b by rw [show (2 : Int32) = 1 + 1 from rfl, Int32.add_mul, Int32.one_mul]]
        apply Int32.toBitVec_inj.mp
        simp [BitVec.sub_eq_add_neg, BitVec.neg_add, BitVec.add_assoc]
      exact this _ _
    · rfl
  rw [hv]
end RZ
