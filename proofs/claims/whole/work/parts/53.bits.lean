/-! sets of strokes as numbers below 256 -/
theorem mk_bit : ∀ a, a < 256 → ∀ j, j < 8 → ((nI a >>> (nI j &&& 31)) &&& 1) = if a.testBit j = true then 1 else 0 := by decide +kernel
theorem mk_set : ∀ a, a < 256 → ∀ j, j < 8 → (nI a ||| ((1 : Int32) <<< (nI j &&& 31))) = nI (a ||| 2 ^ j) := by decide +kernel
theorem mk_one : ∀ j, j < 8 → ((1 : Int32) <<< (nI j &&& 31)) = nI (2 ^ j) := by decide +kernel
theorem mk_all : ∀ n, n < 9 → ((1 : Int32) <<< (nI n &&& 31)) - 1 = nI (2 ^ n - 1) := by decide +kernel
theorem mk_not : ∀ a, a < 256 → (nI a ^^^ (-1)) = nI (2 ^ 32 - (a + 1)) := by decide +kernel
theorem mk_p2 : ∀ j, j < 8 → 2 ^ j < 256 := by decide
theorem mk_or8 {a b : Nat} (ha : a < 256) (hb : b < 256) : a ||| b < 256 := Nat.or_lt_two_pow (n := 8) ha hb
theorem mk_and8 {a b : Nat} (ha : a < 256) : a &&& b < 256 := Nat.lt_of_le_of_lt Nat.and_le_left ha
theorem mk_or1 {a j : Nat} (ha : a < 256) (hj : j < 8) : a ||| 2 ^ j < 256 := mk_or8 ha (mk_p2 j hj)
theorem nx_and (a b : Nat) : nI a &&& nI b = nI (a &&& b) := by
  apply Int32.toBitVec_inj.1
  show BitVec.ofNat 32 a &&& BitVec.ofNat 32 b = BitVec.ofNat 32 (a &&& b)
  apply BitVec.eq_of_getLsbD_eq
  intro i hi
  simp [hi]
theorem nx_or (a b : Nat) : nI a ||| nI b = nI (a ||| b) := by
  apply Int32.toBitVec_inj.1
  show BitVec.ofNat 32 a ||| BitVec.ofNat 32 b = BitVec.ofNat 32 (a ||| b)
  apply BitVec.eq_of_getLsbD_eq
  intro i hi
  simp [hi]
theorem tb_hi {a j : Nat} (ha : a < 256) (hj : 8 ≤ j) : a.testBit j = false := Nat.testBit_lt_two_pow (Nat.lt_of_lt_of_le (show a < 2 ^ 8 from ha) (Nat.pow_le_pow_right (by decide) hj))
theorem tb_set {a i j : Nat} : (a ||| 2 ^ i).testBit j = (a.testBit j || decide (i = j)) := by rw [Nat.testBit_or, Nat.testBit_two_pow]
/-- what is in b and not in a -/
def dif (b a : Nat) : Nat := b &&& (255 - a)
theorem dif_t {a b : Nat} (ha : a < 256) (hb : b < 256) (j : Nat) : (dif b a).testBit j = (b.testBit j && !a.testBit j) := by
  unfold dif
  rw [Nat.testBit_and, show 255 - a = 2 ^ 8 - (a + 1) by omega, Nat.testBit_two_pow_sub_succ (show a < 2 ^ 8 from ha)]
  by_cases hj : j < 8
  · simp [hj]
  · rw [tb_hi hb (by omega)]; simp
theorem dif_lt {a b : Nat} (hb : b < 256) : dif b a < 256 := mk_and8 hb
theorem mk_dif {a b : Nat} (ha : a < 256) (hb : b < 256) : nI b &&& (nI a ^^^ (-1)) = nI (dif b a) := by
  rw [mk_not a ha, nx_and]
  congr 1
  apply Nat.eq_of_testBit_eq
  intro j
  rw [dif_t ha hb, Nat.testBit_and, Nat.testBit_two_pow_sub_succ (show a < 2 ^ 32 by omega)]
  by_cases hj : j < 8
  · simp [show j < 32 by omega]
  · rw [tb_hi hb (by omega)]; simp
/-- a set within another -/
def sub (b a : Nat) : Prop := ∀ j, b.testBit j = true → a.testBit j = true
theorem dif0 {a b : Nat} (ha : a < 256) (hb : b < 256) : dif b a = 0 ↔ sub b a := by
  constructor
  · intro h j hj
    have := dif_t ha hb j
    rw [h, Nat.zero_testBit, hj] at this
    cases e : a.testBit j
    · rw [e] at this; cases this
    · rfl
  · intro h
    apply Nat.eq_of_testBit_eq
    intro j
    rw [dif_t ha hb, Nat.zero_testBit]
    cases e : b.testBit j
    · rfl
    · rw [h j e]; rfl
theorem nI0_iff {a : Nat} (ha : a < 2 ^ 31) : nI a = 0 ↔ a = 0 := nI_eq (b := 0) ha (by decide)
theorem has_eq {a j : Nat} (ha : a < 256) (hj : j < 8) : M_Sets_has (nI a) (nI j) = if a.testBit j = true then 1 else 0 := by
  unfold M_Sets_has
  rw [mk_bit a ha j hj]
  split <;> rfl
/-- how many -/
def pc (a : Nat) : Nat := (a.testBit 0).toNat + (a.testBit 1).toNat + (a.testBit 2).toNat + (a.testBit 3).toNat + (a.testBit 4).toNat + (a.testBit 5).toNat + (a.testBit 6).toNat + (a.testBit 7).toNat
theorem pc_set : ∀ a, a < 256 → ∀ j, j < 8 → a.testBit j = false → pc (a ||| 2 ^ j) = pc a + 1 := by decide +kernel
theorem pc_full : ∀ n, n < 9 → ∀ a, a < 2 ^ n → pc a = n → ∀ v, v < n → a.testBit v = true := by decide +kernel
theorem lt_p2 : ∀ n, n < 9 → 2 ^ n ≤ 256 := by decide
theorem or_lt {a n v : Nat} (ha : a < 2 ^ n) (hv : v < n) : a ||| 2 ^ v < 2 ^ n := Nat.or_lt_two_pow ha (Nat.pow_lt_pow_right (by decide) hv)
/-! what lies right below a stroke -/
def bl (D : Nat → Int32) (s : Nat) : Nat → Nat
  | 0 => 0
  | k + 1 => if uL D k = s then bl D s k ||| 2 ^ lL D k else bl D s k
def blw (D : Nat → Int32) (s : Nat) : Nat := bl D s (nL D)
section BW
variable {B L : Nat} {xs : Nat → Int32} {C : HC} {I J K : HI} {D : Nat → Int32}
theorem bl_s (s k : Nat) : bl D s (k + 1) = if uL D k = s then bl D s k ||| 2 ^ lL D k else bl D s k := rfl
theorem bl_t (s j : Nat) : ∀ k, (bl D s k).testBit j = true ↔ ∃ l, l < k ∧ uL D l = s ∧ lL D l = j := by
  intro k
  induction k with
  | zero => simp [bl]
  | succ k ih =>
    unfold bl
    by_cases e : uL D k = s
    · rw [if_pos e, tb_set, Bool.or_eq_true, ih]
      constructor
      · rintro (⟨l, h1, h2⟩ | h)
        · exact ⟨l, by omega, h2⟩
        · exact ⟨k, by omega, e, by simpa using h⟩
      · rintro ⟨l, h1, h2, h3⟩
        by_cases el : l = k
        · subst el; exact Or.inr (by simpa using h3)
        · exact Or.inl ⟨l, by omega, h2, h3⟩
    · rw [if_neg e, ih]
      constructor
      · rintro ⟨l, h1, h2⟩
        exact ⟨l, by omega, h2⟩
      · rintro ⟨l, h1, h2, h3⟩
        by_cases el : l = k
        · subst el; exact absurd h2 e
        · exact ⟨l, by omega, h2, h3⟩
theorem bl_lt (hD : WD D) (s : Nat) : ∀ k, k ≤ nL D → bl D s k < 256 := by
  intro k
  have n8 := hD.1.2
  induction k with
  | zero => intro _; exact (by decide : (0 : Nat) < 256)
  | succ k ih =>
    intro hk
    unfold bl
    obtain ⟨g1, g2, g3, g4, g5⟩ := uL_eq hD (l := k) (by omega)
    split
    · exact mk_or1 (ih (by omega)) (by omega)
    · exact ih (by omega)
theorem blw_lt (hD : WD D) (s : Nat) : blw D s < 256 := bl_lt hD s _ (Nat.le_refl _)
theorem blw_t (s j : Nat) : (blw D s).testBit j = true ↔ ∃ l, l < nL D ∧ uL D l = s ∧ lL D l = j := bl_t s j _
theorem below2_m (n : Nat) (hn : n ≤ 8) : ∀ f i (J : HI), i ≤ n → n - i < f → J 89 0 = nI n → ∃ K, L_Model_findBelow_2 f (nI i) J = some K ∧ (∀ c, c ≠ 93 → K c = J c) ∧ (∀ s, s < i → K 93 s = J 93 s) ∧ (∀ s, i ≤ s → s < n → K 93 s = 0) := by
  intro f
  induction f with
  | zero => intro i J _ h; omega
  | succ f ih =>
    intro i J hi hf h0
    rw [L_Model_findBelow_2, h0]
    by_cases h : n ≤ i
    · rw [if_pos (nI_le h (by omega))]
      exact ⟨J, rfl, fun _ _ => rfl, fun _ _ => rfl, fun s _ _ => by omega⟩
    · rw [if_neg (nI_ge (by omega) (by omega)), grd_t (bnd_nI (by omega) (by omega)), nI_clamp (by omega), nI_1]
      obtain ⟨K, k1, k2, k3, k4⟩ := ih (i + 1) (xu J 93 i 0) (by omega) (by omega) (by rw [xu_qn (by decide)]; exact h0)
      refine ⟨K, k1, fun c hc => by rw [k2 c hc, xu_ne hc], fun s hs => by rw [k3 s (by omega), xu_rn (by omega)], fun s h1 h2 => ?_⟩
      by_cases e : s = i
      · subst e; rw [k3 s (by omega), xu_rr]
      · exact k4 s (by omega) h2
theorem below27_m (hD : WD D) : ∀ f l (J : HI), l ≤ nL D → nL D - l < f → J 89 = D → (∀ s, s < nS D → J 93 s = nI (bl D s l)) → ∃ K, L_Model_findBelow_27 f (nI l) J = some K ∧ (∀ c, c ≠ 93 → K c = J c) ∧ (∀ s, s < nS D → K 93 s = nI (blw D s)) := by
  have n8 := hD.1.2
  have l12 := hD.2.1.2
  intro f
  induction f with
  | zero => intro i J _ h; omega
  | succ f ih =>
    intro l J hi hf h89 hI
    rw [L_Model_findBelow_27, h89, hD.2.1.1]
    by_cases h : nL D ≤ l
    · rw [if_pos (nI_le h (by omega))]
      obtain rfl : l = nL D := by omega
      exact ⟨J, rfl, fun _ _ => rfl, hI⟩
    · obtain ⟨g1, g2, g3, g4, g5⟩ := uL_eq hD (l := l) (by omega)
      have hlt := bl_lt hD (uL D l) l (by omega)
      rw [if_neg (nI_ge (by omega) (by omega)), upper_m (by omega), lower_m (by omega), Option.bind_some, Option.bind_some, h89, g1, g2, grd_t (bnd_nI (by omega) (by omega)), nI_clamp (by omega), nI_1, hI _ g3, mk_set _ hlt _ (by omega)]
      obtain ⟨K, k1, k2, k3⟩ := ih (l + 1) (xu J 93 (uL D l) (nI (bl D (uL D l) l ||| 2 ^ lL D l))) (by omega) (by omega) (by rw [xu_ne (by decide)]; exact h89) (fun s hs => by
        rw [bl_s]
        by_cases e : uL D l = s
        · subst e; rw [xu_rr, if_pos rfl]
        · rw [xu_rn (fun e' => e e'.symm), if_neg e]; exact hI s hs)
      exact ⟨K, k1, fun c hc => by rw [k2 c hc, xu_ne hc], k3⟩
theorem below_m (hD : WD (J 89)) : ∃ K, M_Model_findBelow J = some K ∧ (∀ c, c ≠ 93 → K c = J c) ∧ (∀ s, s < nS (J 89) → K 93 s = nI (blw (J 89) s)) := by
  have n8 := hD.1.2
  have l12 := hD.2.1.2
  obtain ⟨K, k1, k2, k3, k4⟩ := below2_m (nS (J 89)) n8 1000 0 J (by omega) (by omega) hD.1.1
  obtain ⟨M, m1, m2, m3⟩ := below27_m hD 1000 0 K (by omega) (by omega) (k2 89 (by decide)) (fun s hs => k4 s (by omega) hs)
  refine ⟨M, ?_, fun c hc => by rw [m2 c hc, k2 c hc], m3⟩
  unfold M_Model_findBelow
  rw [show L_Model_findBelow_2 1000 0 J = some K from k1, Option.bind_some, show L_Model_findBelow_27 1000 0 K = some M from m1, Option.bind_some]
theorem below2_c : ∀ f i (J : HI), i ≤ 8 → 8 - i < f → ∃ K, L_Sets_findBelow_2 f (nI i) J = some K ∧ (∀ c, c ≠ 65 → K c = J c) ∧ (∀ s, s < i → K 65 s = J 65 s) ∧ (∀ s, i ≤ s → s < 8 → K 65 s = 0) := by
  intro f
  induction f with
  | zero => intro i J _ h; omega
  | succ f ih =>
    intro i J hi hf
    rw [L_Sets_findBelow_2]
    by_cases h : 8 ≤ i
    · rw [if_pos (c_le 8 8 h (by omega))]
      exact ⟨J, rfl, fun _ _ => rfl, fun _ _ => rfl, fun s _ _ => by omega⟩
    · rw [if_neg (c_nle 8 8 (by omega)), grd_t (bnd_nI (by omega) (by omega)), nI_clamp (by omega), nI_1]
      obtain ⟨K, k1, k2, k3, k4⟩ := ih (i + 1) (xu J 65 i 0) (by omega) (by omega)
      refine ⟨K, k1, fun c hc => by rw [k2 c hc, xu_ne hc], fun s hs => by rw [k3 s (by omega), xu_rn (by omega)], fun s h1 h2 => ?_⟩
      by_cases e : s = i
      · subst e; rw [k3 s (by omega), xu_rr]
      · exact k4 s (by omega) h2
theorem below23_c (h : Rel B L xs C I) : ∀ f l (J : HI), l ≤ nL (I 89) → nL (I 89) - l < f → (∀ c, c ∉ SCR → J c = I c) → (∀ s, s < 8 → J 65 s = nI (bl (I 89) s l)) → ∃ K, L_Sets_findBelow_23 f (nI l) J = some K ∧ (∀ c, c ≠ 65 → K c = J c) ∧ (∀ s, s < 8 → K 65 s = nI (blw (I 89) s)) := by
  have n8 := h.n8
  have l12 := h.2.1.2.1.2
  intro f
  induction f with
  | zero => intro i J _ h; omega
  | succ f ih =>
    intro l J hi hf hJ hI
    rw [L_Sets_findBelow_23, hJ 1 (by decide), lk_nI h]
    by_cases hl : nL (I 89) ≤ l
    · rw [if_pos (nI_le hl (by omega))]
      obtain rfl : l = nL (I 89) := by omega
      exact ⟨J, rfl, fun _ _ => rfl, hI⟩
    · obtain ⟨g1, g2, g3, g4, g5⟩ := lk_c h hJ (l := l) (by omega)
      have hlt := bl_lt h.2.1 (uL (I 89) l) l (by omega)
      rw [if_neg (nI_ge (by omega) (by omega)), grd_t (bnd_nI (by omega) (by omega)), nI_clamp (show l < 2 ^ 31 by omega), g1, g2, grd_t (bnd_nI (by omega) (by omega)), nI_clamp (by omega), nI_1, hI _ (by omega), mk_set _ hlt _ (by omega)]
      obtain ⟨K, k1, k2, k3⟩ := ih (l + 1) (xu J 65 (uL (I 89) l) (nI (bl (I 89) (uL (I 89) l) l ||| 2 ^ lL (I 89) l))) (by omega) (by omega) (fun c hc => by rw [xu_ne (by rintro rfl; exact hc (by decide))]; exact hJ c hc) (fun s hs => by
        rw [bl_s]
        by_cases e : uL (I 89) l = s
        · subst e; rw [xu_rr, if_pos rfl]
        · rw [xu_rn (fun e' => e e'.symm), if_neg e]; exact hI s hs)
      exact ⟨K, k1, fun c hc => by rw [k2 c hc, xu_ne hc], k3⟩
theorem below_c (h : Rel B L xs C I) (hJ : ∀ c, c ∉ SCR → J c = I c) : ∃ K, M_Sets_findBelow J = some K ∧ (∀ c, c ≠ 65 → K c = J c) ∧ (∀ s, s < 8 → K 65 s = nI (blw (I 89) s)) := by
  have l12 := h.2.1.2.1.2
  obtain ⟨K, k1, k2, k3, k4⟩ := below2_c 1000 0 J (by omega) (by omega)
  obtain ⟨M, m1, m2, m3⟩ := below23_c h 1000 0 K (by omega) (by omega) (fun c hc => by rw [k2 c (by rintro rfl; exact hc (by decide))]; exact hJ c hc) (fun s hs => k4 s (by omega) hs)
  refine ⟨M, ?_, fun c hc => by rw [m2 c hc, k2 c hc], m3⟩
  unfold M_Sets_findBelow
  rw [show L_Sets_findBelow_2 1000 0 J = some K from k1, Option.bind_some, show L_Sets_findBelow_23 1000 0 K = some M from m1, Option.bind_some]
/-- s may come next on a -/
def may (D : Nat → Int32) (s a : Nat) : Bool := !a.testBit s && decide (dif (blw D s) a = 0)
theorem may_m (hD : WD D) {s a : Nat} (hs : s < nS D) (ha : a < 256) (hK : K 93 s = nI (blw D s)) : M_Model_mayLie K (nI s) (nI a) = some (if may D s a = true then 1 else 0) := by
  have n8 := hD.1.2
  have hb := blw_lt hD s
  unfold M_Model_mayLie may
  rw [mk_bit a ha s (by omega)]
  cases e : a.testBit s
  · rw [if_neg (show ¬ (false = true) by decide), if_pos rfl, grd_t (bnd_nI (by omega) (by omega)), nI_clamp (by omega), hK, mk_dif ha hb]
    by_cases e2 : dif (blw D s) a = 0
    · rw [if_pos (by rw [e2]; rfl)]; simp [e2]
    · rw [if_neg (fun e' => e2 ((nI0_iff (by have := dif_lt (a := a) hb; omega)).mp e'))]; simp [e2]
  · rw [if_pos rfl, if_neg one0]; rfl
/-- what may come next, as a set -/
def rd (D : Nat → Int32) (a : Nat) : Nat → Nat
  | 0 => 0
  | i + 1 => if may D i a = true then rd D a i ||| 2 ^ i else rd D a i
theorem rd_lt {a : Nat} : ∀ i, i ≤ 8 → rd D a i < 256 := by
  intro i
  induction i with
  | zero => intro _; exact (by decide : (0 : Nat) < 256)
  | succ i ih =>
    intro hi
    unfold rd
    split
    · exact mk_or1 (ih (by omega)) (by omega)
    · exact ih (by omega)
theorem rd_t {a j : Nat} : ∀ i, (rd D a i).testBit j = true ↔ j < i ∧ may D j a = true := by
  intro i
  induction i with
  | zero => simp [rd]
  | succ i ih =>
    unfold rd
    by_cases e : may D i a = true
    · rw [if_pos e, tb_set, Bool.or_eq_true, ih]
      constructor
      · rintro (⟨h1, h2⟩ | h)
        · exact ⟨by omega, h2⟩
        · have : i = j := by simpa using h
          subst this; exact ⟨by omega, e⟩
      · rintro ⟨h1, h2⟩
        by_cases el : j = i
        · subst el; exact Or.inr (by simp)
        · exact Or.inl ⟨by omega, h2⟩
    · rw [if_neg e, ih]
      constructor
      · rintro ⟨h1, h2⟩
        exact ⟨by omega, h2⟩
      · rintro ⟨h1, h2⟩
        by_cases el : j = i
        · subst el; exact absurd h2 e
        · exact ⟨by omega, h2⟩
theorem ready5_c {n a : Nat} (hD : WD D) (hn : n ≤ 8) (ha : a < 256) (hK : ∀ s, s < 8 → K 65 s = nI (blw D s)) : ∀ f i, i ≤ n → n - i < f → L_Sets_readyAfter_5 (nI a) (nI n) K f (nI (rd D a i)) (nI i) = some (nI (rd D a n)) := by
  intro f
  induction f with
  | zero => intro i _ h; omega
  | succ f ih =>
    intro i hi hf
    rw [L_Sets_readyAfter_5]
    by_cases h : n ≤ i
    · rw [if_pos (nI_le h (by omega))]
      obtain rfl : i = n := by omega
      rfl
    · have hb := blw_lt hD i
      have ihi := ih (i + 1) (by omega) (by omega)
      have hr : rd D a (i + 1) = if may D i a = true then rd D a i ||| 2 ^ i else rd D a i := rfl
      rw [if_neg (nI_ge (by omega) (by omega)), has_eq ha (by omega), nI_1]
      cases e : a.testBit i
      · rw [if_neg (show ¬ (false = true) by decide), if_pos rfl, grd_t (bnd_nI (by omega) (by omega)), nI_clamp (by omega), hK _ (by omega), mk_dif ha hb]
        by_cases e2 : dif (blw D i) a = 0
        · rw [if_pos (by rw [e2]; rfl), mk_set _ (rd_lt i (by omega)) _ (by omega)]
          rw [if_pos (by simp [may, e, e2])] at hr
          rw [← hr]
          exact ihi
        · rw [if_neg (fun e' => e2 ((nI0_iff (by have := dif_lt (a := a) hb; omega)).mp e'))]
          rw [if_neg (by simp [may, e2])] at hr
          rw [← hr]
          exact ihi
      · rw [if_pos rfl, if_neg one0]
        rw [if_neg (by simp [may, e])] at hr
        rw [← hr]
        exact ihi
theorem ready_c {n a : Nat} (hD : WD D) (hn : n ≤ 8) (ha : a < 256) (hK : ∀ s, s < 8 → K 65 s = nI (blw D s)) : M_Sets_readyAfter K (nI a) (nI n) = some (nI (rd D a n)) := by
  unfold M_Sets_readyAfter
  rw [show L_Sets_readyAfter_5 (nI a) (nI n) K 1000 0 0 = _ from ready5_c hD hn ha hK 1000 0 (by omega) (by omega), Option.bind_some]
end BW
