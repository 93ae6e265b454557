/-! beasts: pure -/
theorem size_sym : ∀ a, a < 100 → ∀ b, b < 100 → M_Model_size (nI a - nI b) = M_Model_size (nI b - nI a) := by decide +kernel
theorem far_sym : ∀ a, a < 36 → ∀ b, b < 36 → M_Model_farOf (nI a) (nI b) = M_Model_farOf (nI b) (nI a) := by decide +kernel
/-- the lowest of a set -/
def lw (q : Nat) : Nat := if q.testBit 0 = true then 0 else if q.testBit 1 = true then 1 else if q.testBit 2 = true then 2 else if q.testBit 3 = true then 3 else if q.testBit 4 = true then 4 else if q.testBit 5 = true then 5 else if q.testBit 6 = true then 6 else 7
theorem lw_a : ∀ q, q < 256 → 1 ≤ q → lw q < 8 ∧ q.testBit (lw q) = true := by decide +kernel
theorem lw_b : ∀ q, q < 256 → 1 ≤ q → ∀ j, j < lw q → q.testBit j = false := by decide +kernel
theorem lw_c : ∀ q, q < 256 → 1 ≤ q → nI q &&& (-(nI q)) = nI (2 ^ lw q) := by decide +kernel
theorem lw_d : ∀ q, q < 256 → 1 ≤ q → nI q &&& (nI q - 1) = nI (dif q (2 ^ lw q)) := by decide +kernel
theorem mk_low : ∀ p, p < 256 → ∀ l, l < 8 → ((nI p &&& nI (2 ^ l) = 0) ↔ p.testBit l = false) := by decide +kernel
theorem add_or : ∀ q, q < 256 → ∀ l, l < 8 → q.testBit l = false → q + 2 ^ l = q ||| 2 ^ l := by decide +kernel
def cn (m : Nat) : Nat → Nat
  | 0 => 0
  | k + 1 => if k &&& m = k then cn m k + 1 else cn m k
theorem cn_bc : ∀ m, m < 256 → ((1 : Int32) <<< ((M_Int_bitCount (nI m)) &&& (31 : Int32))) = nI (cn m (m + 1)) := by decide +kernel
theorem cn_le (m : Nat) : ∀ k, cn m k ≤ k := by
  intro k
  induction k with
  | zero => exact Nat.le_refl _
  | succ k ih =>
    unfold cn
    split <;> omega
theorem cn_s (m k : Nat) : cn m (k + 1) = if k &&& m = k then cn m k + 1 else cn m k := rfl
theorem cn_skip (m : Nat) : ∀ d a, (∀ q, a ≤ q → q < a + d → ¬ q &&& m = q) → cn m (a + d) = cn m a := by
  intro d
  induction d with
  | zero => intro a _; rfl
  | succ d ih =>
    intro a h
    rw [← Nat.add_assoc, cn_s, if_neg (h (a + d) (by omega) (by omega)), ih a (fun q h1 h2 => h q h1 (by omega))]
/-! sums -/
def sg (g : Nat → Int32) : Nat → Int32
  | 0 => 0
  | k + 1 => sg g k + g k
section SG
variable {g h : Nat → Int32}
theorem sg_s (k : Nat) : sg g (k + 1) = sg g k + g k := rfl
theorem sg_add (a : Nat) : ∀ b, sg g (a + b) = sg g a + sg (fun q => g (a + q)) b := by
  intro b
  induction b with
  | zero => exact (Int32.add_zero _).symm
  | succ b ih => rw [← Nat.add_assoc, sg_s, ih, sg_s, Int32.add_assoc]
theorem sg_c : ∀ k, (∀ q, q < k → g q = h q) → sg g k = sg h k := by
  intro k
  induction k with
  | zero => intro _; rfl
  | succ k ih => intro e; rw [sg_s, sg_s, ih (fun q hq => e q (by omega)), e k (by omega)]
theorem sg_0 : ∀ k, (∀ q, q < k → g q = 0) → sg g k = 0 := by
  intro k
  induction k with
  | zero => intro _; rfl
  | succ k ih => intro e; rw [sg_s, ih (fun q hq => e q (by omega)), e k (by omega)]; rfl
theorem sg_skip {a b : Nat} (hab : a ≤ b) (e : ∀ q, a ≤ q → q < b → g q = 0) : sg g b = sg g a := by
  rw [show b = a + (b - a) by omega, sg_add, sg_0 (b - a) (fun q hq => e (a + q) (by omega) (by omega)), Int32.add_zero]
theorem bl_tb0 {l j q : Nat} (hq : q < 2 ^ l) : (2 ^ (l + 1) * j + q).testBit l = false := by
  have : 2 ^ (l + 1) = 2 ^ l * 2 := Nat.pow_succ ..
  rw [Nat.testBit_two_pow_mul_add j (show q < 2 ^ (l + 1) by omega), if_pos (by omega), Nat.testBit_lt_two_pow hq]
theorem bl_tb1 {l j q : Nat} (hq : q < 2 ^ l) : (2 ^ (l + 1) * j + 2 ^ l + q).testBit l = true := by
  have : 2 ^ (l + 1) = 2 ^ l * 2 := Nat.pow_succ ..
  rw [Nat.add_assoc, Nat.testBit_two_pow_mul_add j (show 2 ^ l + q < 2 ^ (l + 1) by omega), if_pos (by omega), Nat.testBit_two_pow_add_eq, Nat.testBit_lt_two_pow hq]
  rfl
/-- a sum over sets with l is one over sets without -/
theorem reix {l X : Nat} (h1 : ∀ q, q < X → q.testBit l = false → g q = 0) (h2 : ∀ q, q < X → q.testBit l = true → h q = 0) (h3 : ∀ q, q < X → q.testBit l = false → h q = g (q + 2 ^ l)) : ∀ j, 2 ^ (l + 1) * j ≤ X → sg g (2 ^ (l + 1) * j) = sg h (2 ^ (l + 1) * j) := by
  intro j
  induction j with
  | zero => intro _; rfl
  | succ j ih =>
    intro hX
    have e2 : 2 ^ (l + 1) = 2 ^ l * 2 := Nat.pow_succ ..
    have e : 2 ^ (l + 1) * (j + 1) = 2 ^ (l + 1) * j + 2 ^ l + 2 ^ l := by rw [Nat.mul_succ]; omega
    rw [e] at hX ⊢
    rw [sg_add, sg_add, sg_add (g := h), sg_add (g := h), ih (by omega)]
    rw [sg_0 (g := fun q => g (2 ^ (l + 1) * j + q)) _ (fun q hq => h1 _ (by omega) (bl_tb0 hq)), sg_0 (g := fun q => h (2 ^ (l + 1) * j + 2 ^ l + q)) _ (fun q hq => h2 _ (by omega) (bl_tb1 hq)), Int32.add_zero, Int32.add_zero]
    congr 1
    apply sg_c
    intro q hq
    show g (2 ^ (l + 1) * j + 2 ^ l + q) = h (2 ^ (l + 1) * j + q)
    rw [h3 _ (by omega) (bl_tb0 hq)]
    congr 1
    omega
end SG
theorem MinOf.re {v : Int32} {S S' : Nat → Prop} {g g' : Nat → Int32} (h : MinOf v S g) (h1 : ∀ q, S q → ∃ r, S' r ∧ g' r = g q) (h2 : ∀ r, S' r → ∃ q, S q ∧ g q = g' r) : MinOf v S' g' := by
  refine ⟨h.1, fun r hr => ?_, ?_⟩
  · obtain ⟨q, q1, q2⟩ := h2 r hr
    rw [← q2]; exact h.2.1 q q1
  · rcases h.2.2 with e | ⟨q, q1, q2⟩
    · exact Or.inl e
    · obtain ⟨r, r1, r2⟩ := h1 q q1
      exact Or.inr ⟨r, r1, by rw [r2]; exact q2⟩
/-- strokes that are all joined -/
def bst (D : Nat → Int32) (q : Nat) : Prop := ∀ s t, t < s → q.testBit s = true → q.testBit t = true → jnd D s t = true
/-- what joins s -/
def fdl (D : Nat → Int32) (s : Nat) : Nat → Nat
  | 0 => 0
  | t + 1 => if s ≠ t ∧ jnd D s t = true then fdl D s t ||| 2 ^ t else fdl D s t
noncomputable def gR (D W : Nat → Int32) (m q : Nat) : Int32 := @ite Int32 (sub q m ∧ q.testBit (lw m) = true ∧ bst D q) (Classical.propDecidable _) (W (dif m q)) 0
noncomputable def gC (D W : Nat → Int32) (n m q : Nat) : Int32 := @ite Int32 (sub q (m &&& fdl D (lw m) n) ∧ bst D q) (Classical.propDecidable _) (W (dif m (q ||| 2 ^ lw m))) 0
def jM (D : Nat → Int32) (n : Nat) (W V : Nat → Int32) (m : Nat) : Prop := W m = sg (gR D W m) (2 ^ n) ∧ MinOf (V m) (fun q => sub q m ∧ q.testBit (lw m) = true ∧ bst D q) (fun q => V (dif m q) + 1)
def jC (D : Nat → Int32) (n : Nat) (W V : Nat → Int32) (m : Nat) : Prop := W m = sg (gC D W n m) (2 ^ n) ∧ MinOf (V m) (fun q => sub q (m &&& fdl D (lw m) n) ∧ bst D q) (fun q => V (dif m (q ||| 2 ^ lw m)) + 1)
section JP
variable {D W W' V V' : Nat → Int32} {n : Nat}
theorem jnd_sym {s t : Nat} (hs : wS D s) (ht : wS D t) : jnd D s t = jnd D t s := by
  obtain ⟨-, -, ⟨a, a1, a2⟩, ⟨b, b1, b2⟩, -⟩ := hs
  obtain ⟨-, -, ⟨c, c1, c2⟩, ⟨d, d1, d2⟩, -⟩ := ht
  unfold jnd
  rw [a2, b2, c2, d2, size_sym b (by omega) d (by omega), far_sym a (by omega) c (by omega), Int32.add_comm (gpv D s) (gpv D t)]
  congr 1
  by_cases e : stf (kd D s) = stf (kd D t)
  · rw [e]
  · rw [decide_eq_false e, decide_eq_false (fun e' => e e'.symm)]
theorem fdl_s (s t : Nat) : fdl D s (t + 1) = if s ≠ t ∧ jnd D s t = true then fdl D s t ||| 2 ^ t else fdl D s t := rfl
theorem fdl_t (s j : Nat) : ∀ t, (fdl D s t).testBit j = true ↔ j < t ∧ s ≠ j ∧ jnd D s j = true := by
  intro t
  induction t with
  | zero => simp [fdl]
  | succ t ih =>
    rw [fdl_s]
    by_cases e : s ≠ t ∧ jnd D s t = true
    · rw [if_pos e, tb_set, Bool.or_eq_true, ih]
      constructor
      · rintro (⟨h1, h2⟩ | h)
        · exact ⟨by omega, h2⟩
        · have : t = j := by simpa using h
          subst this; exact ⟨by omega, e⟩
      · rintro ⟨h1, h2⟩
        by_cases el : j = t
        · subst el; exact Or.inr (by simp)
        · exact Or.inl ⟨by omega, h2⟩
    · rw [if_neg e, ih]
      constructor
      · rintro ⟨h1, h2⟩
        exact ⟨by omega, h2⟩
      · rintro ⟨h1, h2⟩
        by_cases el : j = t
        · subst el; exact absurd h2 e
        · exact ⟨by omega, h2⟩
theorem fdl_lt (s : Nat) : ∀ t, t ≤ n → fdl D s t < 2 ^ n := by
  intro t
  induction t with
  | zero => intro _; exact Nat.two_pow_pos n
  | succ t ih =>
    intro h
    rw [fdl_s]
    split
    · exact or_lt (ih (by omega)) (by omega)
    · exact ih (by omega)
theorem bst_sub {p q : Nat} (h : bst D q) (hs : sub p q) : bst D p := fun s t h1 h2 h3 => h s t h1 (hs s h2) (hs t h3)
theorem bst_add (hD : WD D) (hn : n = nS D) {q l : Nat} (hl : l < n) (hq : q < 2 ^ n) (h : ∀ j, q.testBit j = true → l < j) : bst D (q ||| 2 ^ l) ↔ bst D q ∧ sub q (fdl D l n) := by
  have hw : ∀ s, s < n → wS D s := fun s hs => hD.2.2.2.2.1 s (by omega)
  constructor
  · intro hb
    refine ⟨bst_sub hb (fun j hj => by rw [tb_set, hj]; rfl), fun j hj => ?_⟩
    have hjn := tb_lt hq hj
    have hlj := h j hj
    rw [fdl_t]
    refine ⟨hjn, by omega, ?_⟩
    rw [jnd_sym (hw l hl) (hw j hjn)]
    exact hb j l hlj (by rw [tb_set, hj]; rfl) (by rw [tb_set]; simp)
  · rintro ⟨h1, h2⟩ s t hts hs ht
    rw [tb_set, Bool.or_eq_true] at hs ht
    have tb : ∀ j, (decide (l = j)) = true → l = j := fun j hj => by simpa using hj
    rcases hs with hs | hs
    · rcases ht with ht | ht
      · exact h1 s t hts hs ht
      · have := tb t ht
        subst this
        have := (fdl_t l s n).mp (h2 s hs)
        rw [jnd_sym (hw s (tb_lt hq hs)) (hw l hl)]
        exact this.2.2
    · have := tb s hs
      subst this
      rcases ht with ht | ht
      · have := h t ht; omega
      · have := tb t ht; omega
theorem dif_low {q : Nat} (hq : q < 256) (h1 : 1 ≤ q) : dif q (2 ^ lw q) ||| 2 ^ lw q = q ∧ (∀ j, (dif q (2 ^ lw q)).testBit j = true → lw q < j) ∧ dif q (2 ^ lw q) < q := by
  obtain ⟨l1, l2⟩ := lw_a q hq h1
  have l3 := lw_b q hq h1
  have hp := mk_p2 (lw q) l1
  have ht : ∀ j, (dif q (2 ^ lw q)).testBit j = (q.testBit j && !(decide (lw q = j))) := fun j => by rw [dif_t hp hq, Nat.testBit_two_pow]
  refine ⟨?_, fun j hj => ?_, ?_⟩
  · apply Nat.eq_of_testBit_eq
    intro j
    rw [tb_set, ht]
    by_cases e : lw q = j
    · subst e; simp [l2]
    · simp [e]
  · rw [ht, Bool.and_eq_true] at hj
    have ne : lw q ≠ j := by
      intro e
      rw [decide_eq_true e] at hj
      exact absurd hj.2 (by decide)
    rcases Nat.lt_trichotomy (lw q) j with h | h | h
    · exact h
    · exact absurd h ne
    · rw [l3 j h] at hj
      exact absurd hj.1 (by decide)
  · have h1 : dif q (2 ^ lw q) ≤ q := Nat.and_le_left
    have h2 : dif q (2 ^ lw q) ≠ q := fun e => by
      have := ht (lw q)
      rw [e, l2] at this
      simp at this
    omega
/-- a beast is its lowest, and the others, which join it -/
theorem bst_low (hD : WD D) (hn : n = nS D) {q : Nat} (hq : q < 2 ^ n) (h1 : 1 ≤ q) : bst D q ↔ bst D (dif q (2 ^ lw q)) ∧ sub (dif q (2 ^ lw q)) (fdl D (lw q) n) := by
  have n8 : n ≤ 8 := by rw [hn]; exact hD.1.2
  have h256 := lt_p2 n (by omega)
  obtain ⟨e1, e2, e3⟩ := dif_low (show q < 256 by omega) h1
  have := bst_add hD hn (q := dif q (2 ^ lw q)) (l := lw q) (tb_lt hq (lw_a q (by omega) h1).2) (by omega) e2
  rw [e1] at this
  exact this
theorem dif_lt2 {m q l : Nat} (hm : m < 256) (hq : q < 256) (h1 : m.testBit l = true) (h2 : q.testBit l = true) : dif m q < m := by
  have h3 : dif m q ≤ m := Nat.and_le_left
  have h4 : dif m q ≠ m := fun e => by
    have := dif_t hq hm l
    rw [e, h1, h2] at this
    cases this
  omega
theorem sub_lt {q m : Nat} (h : sub q m) : q ≤ m := by
  have := sub_iff.mpr h
  rw [← this]; exact Nat.and_le_right
theorem jC_jM (hD : WD D) (hn : n = nS D) {m : Nat} (hm : m < 2 ^ n) (h1 : 1 ≤ m) (h : jC D n W V m) : jM D n W V m := by
  have n8 : n ≤ 8 := by rw [hn]; exact hD.1.2
  have h256 := lt_p2 n (by omega)
  obtain ⟨l1, l2⟩ := lw_a m (by omega) h1
  have l3 := lw_b m (by omega) h1
  have ln := tb_lt hm l2
  have nr : ∀ q, sub q (m &&& fdl D (lw m) n) ↔ sub q m ∧ sub q (fdl D (lw m) n) := fun q => by
    constructor
    · intro hq
      exact ⟨fun j hj => by have := hq j hj; rw [Nat.testBit_and, Bool.and_eq_true] at this; exact this.1, fun j hj => by have := hq j hj; rw [Nat.testBit_and, Bool.and_eq_true] at this; exact this.2⟩
    · rintro ⟨a, b⟩ j hj
      rw [Nat.testBit_and, a j hj, b j hj]; rfl
  have nl : ∀ q, sub q (fdl D (lw m) n) → q.testBit (lw m) = false := fun q hq => by
    cases e : q.testBit (lw m)
    · rfl
    · exact absurd rfl ((fdl_t (lw m) (lw m) n).mp (hq _ e)).2.1
  have hi : ∀ q, sub q m → q.testBit (lw m) = false → ∀ j, q.testBit j = true → lw m < j := fun q hq hl j hj => by
    rcases Nat.lt_trichotomy (lw m) j with h | h | h
    · exact h
    · rw [← h, hl] at hj; cases hj
    · have := hq j hj
      rw [l3 j h] at this; cases this
  have so : ∀ q, sub q m → sub (q ||| 2 ^ lw m) m := fun q hq j hj => by
    rw [tb_set, Bool.or_eq_true] at hj
    rcases hj with hj | hj
    · exact hq j hj
    · have : lw m = j := by simpa using hj
      rw [← this]; exact l2
  have so' : ∀ q, sub (q ||| 2 ^ lw m) m → sub q m := fun q hq j hj => hq j (by rw [tb_set, hj]; rfl)
  have key : ∀ q, q.testBit (lw m) = false → ((sub q (m &&& fdl D (lw m) n) ∧ bst D q) ↔ (sub (q ||| 2 ^ lw m) m ∧ (q ||| 2 ^ lw m).testBit (lw m) = true ∧ bst D (q ||| 2 ^ lw m))) := fun q hl => by
    constructor
    · rintro ⟨a, b⟩
      obtain ⟨a1, a2⟩ := (nr q).mp a
      have := sub_lt a1
      exact ⟨so q a1, by rw [tb_set]; simp, (bst_add hD hn ln (by omega) (hi q a1 hl)).mpr ⟨b, a2⟩⟩
    · rintro ⟨a, -, b⟩
      have a1 := so' q a
      have := sub_lt a1
      obtain ⟨b1, b2⟩ := (bst_add hD hn ln (by omega) (hi q a1 hl)).mp b
      exact ⟨(nr q).mpr ⟨a1, b2⟩, b1⟩
  refine ⟨?_, h.2.re (fun q hq => ⟨q ||| 2 ^ lw m, (key q (nl q ((nr q).mp hq.1).2)).mp hq, rfl⟩) (fun r hr => ?_)⟩
  · rw [h.1]
    have r := reix (g := gR D W m) (h := gC D W n m) (l := lw m) (X := 2 ^ n) (fun q _ hq => ?_) (fun q _ hq => ?_) (fun q hq1 hq => ?_) (2 ^ (n - (lw m + 1)))
    · rw [← Nat.pow_add, show lw m + 1 + (n - (lw m + 1)) = n by omega] at r
      exact (r (Nat.le_refl _)).symm
    · unfold gR
      rw [if_neg (fun e => by rw [hq] at e; exact absurd e.2.1 (by decide))]
    · unfold gC
      rw [if_neg (fun e => by have := nl q ((nr q).mp e.1).2; rw [hq] at this; cases this)]
    · unfold gC gR
      rw [add_or q (by omega) _ l1 hq]
      by_cases c : sub q (m &&& fdl D (lw m) n) ∧ bst D q
      · rw [if_pos c, if_pos ((key q hq).mp c)]
      · rw [if_neg c, if_neg (fun e => c ((key q hq).mpr e))]
  · obtain ⟨r1, r2, r3⟩ := hr
    have hr2 := sub_lt r1
    have hl2 := mk_p2 (lw m) l1
    have e1 : dif r (2 ^ lw m) ||| 2 ^ lw m = r := by
      apply Nat.eq_of_testBit_eq
      intro j
      rw [tb_set, dif_t hl2 (by omega), Nat.testBit_two_pow]
      by_cases e : lw m = j
      · subst e; simp [r2]
      · simp [e]
    have e2 : (dif r (2 ^ lw m)).testBit (lw m) = false := by rw [dif_t hl2 (by omega), Nat.testBit_two_pow]; simp
    refine ⟨dif r (2 ^ lw m), (key _ e2).mpr (by rw [e1]; exact ⟨r1, r2, r3⟩), ?_⟩
    show V (dif m (dif r (2 ^ lw m) ||| 2 ^ lw m)) + 1 = V (dif m r) + 1
    rw [e1]
theorem gR_c {m : Nat} (hm : m < 256) (h1 : 1 ≤ m) (hb : ∀ b, b < m → W b = W' b) : ∀ q, gR D W m q = gR D W' m q := by
  intro q
  obtain ⟨l1, l2⟩ := lw_a m hm h1
  unfold gR
  by_cases c : sub q m ∧ q.testBit (lw m) = true ∧ bst D q
  · have := sub_lt c.1
    rw [if_pos c, if_pos c, hb _ (dif_lt2 hm (by omega) l2 c.2.1)]
  · rw [if_neg c, if_neg c]
theorem jM_c {m : Nat} (hm : m < 256) (h1 : 1 ≤ m) (hb : ∀ b, b ≤ m → W b = W' b ∧ V b = V' b) (h : jM D n W V m) : jM D n W' V' m := by
  obtain ⟨l1, l2⟩ := lw_a m hm h1
  refine ⟨?_, ?_⟩
  · rw [← (hb m (Nat.le_refl _)).1, h.1]
    exact sg_c _ (fun q _ => gR_c hm h1 (fun b hb' => (hb b (by omega)).1) q)
  · rw [← (hb m (Nat.le_refl _)).2]
    refine h.2.c (fun _ => Iff.rfl) (fun q hq => ?_)
    have := sub_lt hq.1
    show V' (dif m q) + 1 = V (dif m q) + 1
    have lt := dif_lt2 hm (by omega) l2 hq.2.1
    rw [(hb _ (by omega)).2]
theorem jM_uni (hn : n ≤ 8) (h0 : W 0 = W' 0 ∧ V 0 = V' 0) (h : ∀ m, 1 ≤ m → m < 2 ^ n → jM D n W V m) (h' : ∀ m, 1 ≤ m → m < 2 ^ n → jM D n W' V' m) : ∀ d m, m ≤ d → m < 2 ^ n → W m = W' m ∧ V m = V' m := by
  have h256 := lt_p2 n (by omega)
  intro d
  induction d with
  | zero => intro m h1 _; obtain rfl : m = 0 := by omega
            exact h0
  | succ d ih =>
    intro m h1 h2
    by_cases e : m = 0
    · subst e; exact h0
    · obtain ⟨l1, l2⟩ := lw_a m (by omega) (by omega)
      obtain ⟨a1, a2⟩ := h m (by omega) h2
      obtain ⟨b1, b2⟩ := h' m (by omega) h2
      refine ⟨?_, MinOf.uni a2 (b2.c (fun _ => Iff.rfl) (fun q hq => ?_))⟩
      · rw [a1, b1]
        exact sg_c _ (fun q _ => gR_c (by omega) (by omega) (fun b hb => (ih b (by omega) (by omega)).1) q)
      · have := sub_lt hq.1
        have lt := dif_lt2 (show m < 256 by omega) (by omega) l2 hq.2.1
        show V (dif m q) + 1 = V' (dif m q) + 1
        rw [(ih (dif m q) (by omega) (by omega)).2]
end JP
