/-! what is wrong if a stroke comes next -/
def sm (g : Nat → Int32) : Nat → Int32
  | 0 => 0
  | j + 1 => sm g j + g j
def cst (D : Nat → Int32) (s a : Nat) : Nat → Int32
  | 0 => 0
  | l + 1 => if uL D l = s ∧ a.testBit (lL D l) = false then cst D s a l + wgt D l else cst D s a l
def cs (D : Nat → Int32) (s a : Nat) : Int32 := cst D s a (nL D)
def los (D : Nat → Int32) (u w : Nat) : Nat → Int32
  | 0 => 0
  | l + 1 => if uL D l = u ∧ lL D l = w then los D u w l + wgt D l else los D u w l
theorem n_scr {W : List Nat} (h : W.all (fun c => SCR.contains c) = true) {c : Nat} (hn : c ∉ SCR) : c ∉ W := fun hm => hn (by
  have := List.all_eq_true.mp h c hm
  simpa using this)
section RL2
variable {B L : Nat} {xs : Nat → Int32} {C : HC} {I J K : HI} {D : Nat → Int32}
theorem sm_s (g : Nat → Int32) (j : Nat) : sm g (j + 1) = sm g j + g j := rfl
theorem cst_s (s a l : Nat) : cst D s a (l + 1) = if uL D l = s ∧ a.testBit (lL D l) = false then cst D s a l + wgt D l else cst D s a l := rfl
theorem los_s (u w l : Nat) : los D u w (l + 1) = if uL D l = u ∧ lL D l = w then los D u w l + wgt D l else los D u w l := rfl
theorem add4 (a b c d : Int32) : (a + b) + (c + d) = (a + c) + (b + d) := by
  rw [Int32.add_assoc, Int32.add_assoc, ← Int32.add_assoc b c d, ← Int32.add_assoc c b d, Int32.add_comm b c]
theorem sm_c {g g' : Nat → Int32} : ∀ n, (∀ j, j < n → g j = g' j) → sm g n = sm g' n := by
  intro n
  induction n with
  | zero => intro _; rfl
  | succ n ih => intro h; rw [sm_s, sm_s, ih (fun j hj => h j (by omega)), h n (by omega)]
theorem sm_add (g g' : Nat → Int32) : ∀ n, sm (fun j => g j + g' j) n = sm g n + sm g' n := by
  intro n
  induction n with
  | zero => exact (Int32.add_zero 0).symm
  | succ n ih => rw [sm_s, sm_s, sm_s, ih, add4]
theorem sm_0 : ∀ n, sm (fun _ => 0) n = 0 := by
  intro n
  induction n with
  | zero => rfl
  | succ n ih => rw [sm_s, ih, Int32.add_zero]
theorem sm_one (t : Nat) (v : Int32) : ∀ n, sm (fun j => if j = t then v else 0) n = if t < n then v else 0 := by
  intro n
  induction n with
  | zero => rfl
  | succ n ih =>
    rw [sm_s, ih]
    by_cases h : n = t
    · subst h; rw [if_neg (by omega), if_pos rfl, if_pos (by omega), Int32.zero_add]
    · rw [if_neg h, Int32.add_zero]
      by_cases h2 : t < n
      · rw [if_pos h2, if_pos (by omega)]
      · rw [if_neg h2, if_neg (by omega)]
/-- the two sums are one -/
theorem los_sum (hD : WD D) (s a : Nat) : ∀ l, l ≤ nL D → sm (fun j => if a.testBit j = false then los D s j l else 0) 8 = cst D s a l := by
  have n8 := hD.1.2
  intro l
  induction l with
  | zero =>
    intro _
    rw [sm_c (g' := fun _ => 0) 8 (fun j _ => by simp [los])]
    exact sm_0 8
  | succ l ih =>
    intro hl
    obtain ⟨g1, g2, g3, g4, g5⟩ := uL_eq hD (l := l) (by omega)
    rw [cst_s, ← ih (by omega)]
    by_cases e : uL D l = s
    · rw [sm_c (g' := fun j => (if a.testBit j = false then los D s j l else 0) + (if j = lL D l then (if a.testBit j = false then wgt D l else 0) else 0)) 8 (fun j _ => by
        show (if a.testBit j = false then los D s j (l + 1) else 0) = _
        rw [los_s]
        by_cases e2 : a.testBit j = false
        · rw [if_pos e2, if_pos e2, if_pos e2]
          by_cases e3 : lL D l = j
          · rw [if_pos ⟨e, e3⟩, if_pos e3.symm]
          · rw [if_neg (fun h => e3 h.2), if_neg (fun h => e3 h.symm), Int32.add_zero]
        · rw [if_neg e2, if_neg e2, if_neg e2]
          split <;> rfl), sm_add]
      rw [sm_c (g := fun j => if j = lL D l then (if a.testBit j = false then wgt D l else 0) else 0) (g' := fun j => if j = lL D l then (if a.testBit (lL D l) = false then wgt D l else 0) else 0) 8 (fun j _ => by
        by_cases ej : j = lL D l
        · rw [ej]
        · rw [if_neg ej, if_neg ej]), sm_one, if_pos (by omega)]
      by_cases e2 : a.testBit (lL D l) = false
      · rw [if_pos e2, if_pos ⟨e, e2⟩]
      · rw [if_neg e2, if_neg (fun h => e2 h.2), Int32.add_zero]
    · rw [if_neg (fun h => e h.1)]
      apply sm_c
      intro j _
      show (if a.testBit j = false then los D s j (l + 1) else 0) = _
      rw [los_s, if_neg (show ¬ (uL D l = s ∧ lL D l = j) from fun h => e h.1)]
theorem los_0 {s j : Nat} : ∀ l, (∀ i, i < l → ¬ (uL D i = s ∧ lL D i = j)) → los D s j l = 0 := by
  intro l
  induction l with
  | zero => intro _; rfl
  | succ l ih => intro h; rw [los_s, if_neg (h l (by omega))]; exact ih (fun i hi => h i (by omega))
theorem los_dif (hD : WD D) {s a : Nat} (ha : a < 256) : sm (fun j => if (dif (blw D s) a).testBit j = true then los D s j (nL D) else 0) 8 = cs D s a := by
  unfold cs
  rw [← los_sum hD s a _ (Nat.le_refl _)]
  apply sm_c
  intro j _
  show (if (dif (blw D s) a).testBit j = true then los D s j (nL D) else 0) = if a.testBit j = false then los D s j (nL D) else 0
  rw [dif_t ha (blw_lt hD s)]
  cases e : a.testBit j
  · rw [if_pos rfl]
    cases e2 : (blw D s).testBit j
    · rw [if_neg (by simp)]
      symm
      apply los_0
      intro i hi hh
      have := (blw_t (D := D) s j).mpr ⟨i, hi, hh⟩
      rw [e2] at this; cases this
    · rw [if_pos (by simp)]
  · rw [if_neg (by simp), if_neg (by simp)]
/-! the class -/
theorem mk_shr : ∀ m, m < 256 → ∀ j, j < 8 → (nI m >>> (nI j &&& 31)) = nI (m >>> j) := by decide +kernel
theorem lossOf17 {s m : Nat} (hs : s < 8) (hm : m < 256) : ∀ f j, j ≤ 8 → 8 - j < f → L_Sets_lossOf_17 (nI s) (nI m) J f (sm (fun j => if m.testBit j = true then J 67 (s * 8 + j) else 0) j) (nI j) = some (sm (fun j => if m.testBit j = true then J 67 (s * 8 + j) else 0) 8) := by
  intro f
  induction f with
  | zero => intro j _ h; omega
  | succ f ih =>
    intro j hj hf
    rw [L_Sets_lossOf_17]
    by_cases h : 8 ≤ j
    · rw [if_pos (c_le 8 8 h (by omega))]
      obtain rfl : j = 8 := by omega
      rfl
    · rw [if_neg (c_nle 8 8 (by omega)), mk_shr m hm j (by omega), has_eq hm (by omega)]
      have hlt : m >>> j < 2 ^ 31 := by
        have : m >>> j ≤ m := by rw [Nat.shiftRight_eq_div_pow]; exact Nat.div_le_self _ _
        omega
      by_cases e0 : m >>> j = 0
      · rw [if_pos (by rw [e0]; rfl)]
        have hz : ∀ i, j ≤ i → m.testBit i = false := fun i hi => by
          have : (m >>> j).testBit (i - j) = m.testBit (j + (i - j)) := Nat.testBit_shiftRight ..
          rw [e0, Nat.zero_testBit, show j + (i - j) = i by omega] at this
          exact this.symm
        have : ∀ d, sm (fun j => if m.testBit j = true then J 67 (s * 8 + j) else 0) (j + d) = sm (fun j => if m.testBit j = true then J 67 (s * 8 + j) else 0) j := by
          intro d
          induction d with
          | zero => rfl
          | succ d ihd => rw [← Nat.add_assoc, sm_s, ihd, hz (j + d) (by omega), if_neg (by decide), Int32.add_zero]
        have h8 := this (8 - j)
        rw [show j + (8 - j) = 8 by omega] at h8
        rw [h8]
      · rw [if_neg (fun e => e0 ((nI0_iff hlt).mp e)), nI_1]
        have hn := ih (j + 1) (by omega) (by omega)
        rw [sm_s] at hn
        cases e : m.testBit j
        · rw [if_neg (show ¬ (false = true) by decide), if_pos rfl]
          rw [e, if_neg (show ¬ (false = true) by decide), Int32.add_zero] at hn
          exact hn
        · rw [if_pos rfl, if_neg one0, show nI s * 8 = nI (s * 8) from pk_mul s 8, nI_add, grd_t (bnd_nI (by omega) (by omega)), nI_clamp (by omega)]
          rw [e, if_pos rfl] at hn
          exact hn
theorem lossOf_c (hD : WD D) {s a : Nat} (hs : s < 8) (ha : a < 256) (h65 : ∀ s, s < 8 → J 65 s = nI (blw D s)) (h67 : ∀ u w, u < 8 → w < 8 → J 67 (u * 8 + w) = los D u w (nL D)) : M_Sets_lossOf J (nI s) (nI a) = some (cs D s a) := by
  have hb := blw_lt hD s
  unfold M_Sets_lossOf
  rw [grd_t (bnd_nI (by omega) (by omega)), nI_clamp (by omega), h65 s hs, mk_dif ha hb, show L_Sets_lossOf_17 (nI s) (nI (dif (blw D s) a)) J 1000 0 0 = _ from lossOf17 (J := J) hs (dif_lt hb) 1000 0 (by omega) (by omega), Option.bind_some, ← los_dif hD ha]
  congr 1
  apply sm_c
  intro j hj
  show (if _ then J 67 (s * 8 + j) else 0) = _
  rw [h67 s j hs hj]
theorem los7 : ∀ f i (J : HI), i ≤ 64 → 64 - i < f → (∀ a, a < i → J 67 a = 0) → ∃ K, L_Sets_findLosses_7 f (nI i) J = some K ∧ (∀ c, c ≠ 67 → K c = J c) ∧ (∀ a, a < 64 → K 67 a = 0) := by
  intro f
  induction f with
  | zero => intro i J _ h; omega
  | succ f ih =>
    intro i J hi hf hI
    rw [L_Sets_findLosses_7]
    by_cases h : 64 ≤ i
    · rw [if_pos (c_le 64 64 h (by omega))]
      exact ⟨J, rfl, fun _ _ => rfl, fun a ha => hI a (by omega)⟩
    · rw [if_neg (c_nle 64 64 (by omega)), grd_t (bnd_nI (by omega) (by omega)), nI_clamp (by omega), nI_1]
      obtain ⟨K, k1, k2, k3⟩ := ih (i + 1) (xu J 67 i 0) (by omega) (by omega) (fun a ha => by
        by_cases e : a = i
        · subst e; rw [xu_rr]
        · rw [xu_rn e]; exact hI a (by omega))
      exact ⟨K, k1, fun c hc => by rw [k2 c hc, xu_ne hc], k3⟩
theorem los31 (h : Rel B L xs C I) : ∀ f l (J : HI), l ≤ nL (I 89) → nL (I 89) - l < f → (∀ c, c ∉ SCR → J c = I c) → (∀ u w, u < 8 → w < 8 → J 67 (u * 8 + w) = los (I 89) u w l) → ∃ K, L_Sets_findLosses_31 C f (nI l) J = some K ∧ fr [19, 24, 67] J K ∧ (∀ u w, u < 8 → w < 8 → K 67 (u * 8 + w) = los (I 89) u w (nL (I 89))) := by
  have n8 := h.n8
  have l12 := h.2.1.2.1.2
  intro f
  induction f with
  | zero => intro i J _ h; omega
  | succ f ih =>
    intro l J hi hf hJ hI
    rw [L_Sets_findLosses_31, hJ 1 (by decide), lk_nI h]
    by_cases hl : nL (I 89) ≤ l
    · rw [if_pos (nI_le hl (by omega))]
      obtain rfl : l = nL (I 89) := by omega
      exact ⟨J, rfl, fr.refl, hI⟩
    · obtain ⟨g1, g2, g3, g4, g5⟩ := lk_c h hJ (l := l) (by omega)
      obtain ⟨M, m1, m2⟩ := weight_c h hJ (l := l) (by omega)
      rw [if_neg (nI_ge (by omega) (by omega)), grd_t (bnd_nI (by omega) (by omega)), nI_clamp (show l < 2 ^ 31 by omega), g1, g2, show nI (uL (I 89) l) * 8 = nI (uL (I 89) l * 8) from pk_mul _ 8, nI_add, grd_t (bnd_nI (by omega) (by omega)), nI_clamp (by omega), m1, Option.bind_some, nI_1, hI _ _ (by omega) (by omega)]
      simp only [lt_def]
      have hM : ∀ c, c ∉ SCR → M c = I c := fun c hn => by rw [m2 c (n_scr (by decide) hn), hJ c hn]
      obtain ⟨K, k1, k2, k3⟩ := ih (l + 1) (xu M 67 (uL (I 89) l * 8 + lL (I 89) l) (los (I 89) (uL (I 89) l) (lL (I 89) l) l + wgt (I 89) l)) (by omega) (by omega) (fun c hc => by rw [xu_ne (by rintro rfl; exact hc (by decide))]; exact hM c hc) (fun u w hu hw => by
        rw [los_s]
        by_cases e : uL (I 89) l = u ∧ lL (I 89) l = w
        · rw [if_pos e, ← e.1, ← e.2, xu_rr]
        · rw [if_neg e, xu_rn (fun e' => e ⟨by omega, by omega⟩), m2 67 (by decide)]; exact hI u w hu hw)
      exact ⟨K, k1, fr.trans (fr.trans (fr.sub (by decide) m2) (fr.wr (by decide) fr.refl)) k2, k3⟩
theorem losses_c (h : Rel B L xs C I) : ∃ K, M_Sets_findLosses C I = some K ∧ fr [19, 24, 65, 67] I K ∧ (∀ s, s < 8 → K 65 s = nI (blw (I 89) s)) ∧ (∀ u w, u < 8 → w < 8 → K 67 (u * 8 + w) = los (I 89) u w (nL (I 89))) := by
  have l12 := h.2.1.2.1.2
  obtain ⟨K, k1, k2, k3⟩ := below_c h (J := I) (fun _ _ => rfl)
  obtain ⟨M, m1, m2, m3⟩ := los7 1000 0 K (by omega) (by omega) (fun a ha => by omega)
  obtain ⟨P, p1, p2, p3⟩ := los31 h 1000 0 M (by omega) (by omega) (fun c hc => by rw [m2 c (by rintro rfl; exact hc (by decide)), k2 c (by rintro rfl; exact hc (by decide))]) (fun u w hu hw => m3 _ (by omega))
  refine ⟨P, ?_, ?_, fun s hs => by rw [p2 65 (by decide), m2 65 (by decide)]; exact k3 s hs, p3⟩
  · unfold M_Sets_findLosses
    rw [k1, Option.bind_some, show (0 : Int32) = nI 0 from rfl, m1, Option.bind_some, p1, Option.bind_some]
  · intro c hc
    rw [p2 c (fun hm => hc (by revert hm; simp; omega)), m2 c (fun e => hc (by simp [e])), k2 c (fun e => hc (by simp [e]))]
/-! the reference -/
theorem costs5_m (hD : WD D) {s a : Nat} (hs : s < nS D) (ha : a < 256) : ∀ f l (J : HI), l ≤ nL D → nL D - l < f → J 89 = D → ∃ K, L_Model_costs_5 (nI s) (nI a) f (cst D s a l) (nI l) J = some (cs D s a, K) ∧ fr [88, 92] J K ∧ fk [4, 5, 6, 7, 8, 9] J K := by
  have n8 := hD.1.2
  have l12 := hD.2.1.2
  intro f
  induction f with
  | zero => intro i J _ h; omega
  | succ f ih =>
    intro l J hi hf h89
    rw [L_Model_costs_5, h89, hD.2.1.1]
    by_cases hl : nL D ≤ l
    · rw [if_pos (nI_le hl (by omega))]
      obtain rfl : l = nL D := by omega
      exact ⟨J, rfl, fr.refl, fk.refl⟩
    · obtain ⟨g1, g2, g3, g4, g5⟩ := uL_eq hD (l := l) (by omega)
      have hc := cst_s (D := D) s a l
      rw [if_neg (nI_ge (by omega) (by omega)), upper_m (by omega), lower_m (by omega), Option.bind_some, Option.bind_some, h89, g1, g2, mk_bit a ha _ (by omega), nI_1, Int32.add_zero]
      by_cases e : uL D l = s
      · rw [if_pos (by rw [e])]
        cases e2 : a.testBit (lL D l)
        · rw [if_neg (show ¬ (false = true) by decide), if_pos rfl]
          rw [if_pos ⟨e, e2⟩] at hc
          obtain ⟨M, m1⟩ := weight_m (I := J) (l := l) (by rw [h89]; exact hD) (by rw [h89]; omega)
          rw [h89] at m1
          have w1 : fr [88, 92] J M := w_Model_weightOf m1
          have v1 : fk [4, 5, 6, 7, 8, 9] J M := v_Model_weightOf m1
          rw [m1, Option.bind_some]
          simp only []
          rw [← hc]
          obtain ⟨K, k1, k2, k3⟩ := ih (l + 1) M (by omega) (by omega) (by rw [w1 89 (by decide)]; exact h89)
          exact ⟨K, k1, fr.trans w1 k2, fk.trans v1 k3⟩
        · rw [if_pos rfl, if_neg one0]
          rw [if_neg (fun h => by rw [e2] at h; cases h.2)] at hc
          rw [← hc]
          exact ih (l + 1) J (by omega) (by omega) h89
      · rw [if_neg (fun e' => e ((nI_eq (by omega) (by omega)).mp e'))]
        rw [if_neg (fun h => e h.1)] at hc
        rw [← hc]
        exact ih (l + 1) J (by omega) (by omega) h89
theorem costs_m (hD : WD D) {s a : Nat} (hs : s < nS D) (ha : a < 256) (h89 : J 89 = D) : ∃ K, M_Model_costs J (nI s) (nI a) = some (cs D s a, K) ∧ fr [88, 92] J K ∧ fk [4, 5, 6, 7, 8, 9] J K := by
  have l12 := hD.2.1.2
  obtain ⟨K, k1, k2, k3⟩ := costs5_m hD hs ha 1000 0 J (by omega) (by omega) h89
  refine ⟨K, ?_, k2, k3⟩
  unfold M_Model_costs
  rw [show L_Model_costs_5 (nI s) (nI a) 1000 0 0 J = _ from k1, Option.bind_some]
theorem cst_rg (s a : Nat) : ∀ l, l ≤ 12 → 0 ≤ (cst D s a l).toInt ∧ (cst D s a l).toInt ≤ 999 * l := by
  intro l
  induction l with
  | zero => intro _; rw [show cst D s a 0 = 0 from rfl, show (0 : Int32).toInt = 0 from rfl]; omega
  | succ l ih =>
    intro hl
    obtain ⟨i1, i2⟩ := ih (by omega)
    obtain ⟨w1, w2⟩ := (rg_iff (by decide)).mp (wgt_rg (D := D) l)
    rw [cst_s]
    split
    · rw [i_add (by omega)]; omega
    · omega
theorem cs_rg (hD : WD D) (s a : Nat) : 0 ≤ (cs D s a).toInt ∧ (cs D s a).toInt ≤ 11988 := by
  have l12 := hD.2.1.2
  have := cst_rg (D := D) s a (nL D) l12
  unfold cs
  omega
end RL2
