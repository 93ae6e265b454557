/-! the fewest times -/
/-- strokes of a stuff, as a set -/
def al (D : Nat → Int32) (j : Nat) : Nat → Nat
  | 0 => 0
  | s + 1 => if stf (kd D s) = j then al D j s ||| 2 ^ s else al D j s
/-- all that may come of a stuff -/
def tk (D : Nat → Int32) (n a j : Nat) : Nat := rd D a n &&& al D j n
def mc (D : Nat → Int32) (n p a : Nat) : Prop := (∀ s, s < n → p.testBit s = true → may D s a = true) ∧ (∀ s t, s < n → t < n → p.testBit s = true → p.testBit t = true → stf (kd D s) = stf (kd D t))
def tC (D : Nat → Int32) (n : Nat) (V : Nat → Int32) (a : Nat) : Prop := (a = 2 ^ n - 1 → V a = 0) ∧ (a ≠ 2 ^ n - 1 → MinOf (V a) (fun j => j < 4 ∧ tk D n a j ≠ 0) (fun j => V (a ||| tk D n a j) + 1))
def tM (D : Nat → Int32) (n : Nat) (V : Nat → Int32) (a : Nat) : Prop := (a = 2 ^ n - 1 → V a = 0) ∧ (a ≠ 2 ^ n - 1 → MinOf (V a) (fun q => 1 ≤ q ∧ sub q (dif (2 ^ n - 1) a) ∧ mc D n q a) (fun q => V (a ||| q) + 1))
section TI
variable {B L : Nat} {xs : Nat → Int32} {C : HC} {I J K : HI} {D V V' : Nat → Int32} {n : Nat}
theorem al_s (j s : Nat) : al D j (s + 1) = if stf (kd D s) = j then al D j s ||| 2 ^ s else al D j s := rfl
theorem al_lt (j : Nat) : ∀ s, s ≤ n → al D j s < 2 ^ n := by
  intro s
  induction s with
  | zero => intro _; exact Nat.two_pow_pos n
  | succ s ih =>
    intro h
    rw [al_s]
    split
    · exact or_lt (ih (by omega)) (by omega)
    · exact ih (by omega)
theorem al_t (j k : Nat) : ∀ s, (al D j s).testBit k = true ↔ k < s ∧ stf (kd D k) = j := by
  intro s
  induction s with
  | zero => simp [al]
  | succ s ih =>
    rw [al_s]
    by_cases e : stf (kd D s) = j
    · rw [if_pos e, tb_set, Bool.or_eq_true, ih]
      constructor
      · rintro (⟨h1, h2⟩ | h)
        · exact ⟨by omega, h2⟩
        · have : s = k := by simpa using h
          subst this; exact ⟨by omega, e⟩
      · rintro ⟨h1, h2⟩
        by_cases el : k = s
        · subst el; exact Or.inr (by simp)
        · exact Or.inl ⟨by omega, h2⟩
    · rw [if_neg e, ih]
      constructor
      · rintro ⟨h1, h2⟩
        exact ⟨by omega, h2⟩
      · rintro ⟨h1, h2⟩
        by_cases el : k = s
        · subst el; exact absurd h2 e
        · exact ⟨by omega, h2⟩
theorem rd_p2 {a : Nat} : ∀ i, i ≤ n → rd D a i < 2 ^ n := by
  intro i
  induction i with
  | zero => intro _; exact Nat.two_pow_pos n
  | succ i ih =>
    intro h
    unfold rd
    split
    · exact or_lt (ih (by omega)) (by omega)
    · exact ih (by omega)
theorem tk_lt (a j : Nat) : tk D n a j < 2 ^ n := Nat.lt_of_le_of_lt Nat.and_le_left (rd_p2 n (Nat.le_refl _))
theorem tk_t (a j k : Nat) : (tk D n a j).testBit k = true ↔ k < n ∧ may D k a = true ∧ stf (kd D k) = j := by
  unfold tk
  rw [Nat.testBit_and, Bool.and_eq_true, rd_t, al_t]
  constructor
  · rintro ⟨⟨h1, h2⟩, -, h3⟩; exact ⟨h1, h2, h3⟩
  · rintro ⟨h1, h2, h3⟩; exact ⟨⟨h1, h2⟩, h1, h3⟩
theorem or_lt2 {a b : Nat} (ha : a < 2 ^ n) (hb : b < 2 ^ n) : a ||| b < 2 ^ n := Nat.or_lt_two_pow ha hb
theorem tb_lt {a k : Nat} (ha : a < 2 ^ n) (h : a.testBit k = true) : k < n := by
  rcases Nat.lt_or_ge k n with h' | h'
  · exact h'
  · rw [Nat.testBit_lt_two_pow (Nat.lt_of_lt_of_le ha (Nat.pow_le_pow_right (by decide) h'))] at h; cases h
theorem ne0_ex {a : Nat} (ha : a < 2 ^ n) (h : a ≠ 0) : ∃ k, k < n ∧ a.testBit k = true :=
  Classical.byContradiction fun hn => h (eq0_of ha (fun j hj => by
    cases e : a.testBit j
    · rfl
    · exact absurd ⟨j, hj, e⟩ hn))
theorem or_gt2 {a b k : Nat} (h1 : a.testBit k = false) (h2 : b.testBit k = true) : a < a ||| b := by
  have h3 : a ≤ a ||| b := Nat.left_le_or
  have h4 : a ≠ a ||| b := fun e => by
    have : (a ||| b).testBit k = true := by rw [Nat.testBit_or, h2, Bool.or_true]
    rw [← e, h1] at this; cases this
  omega
/-- what may come on less, may come on more, or is there -/
theorem may_mono (hD : WD D) {s S T : Nat} (hS : S < 256) (hT : T < 256) (h : sub T S) (hm : may D s T = true) : S.testBit s = true ∨ may D s S = true := by
  cases e : S.testBit s
  · right
    unfold may at hm ⊢
    rw [e]
    rw [Bool.and_eq_true] at hm
    have hd : dif (blw D s) T = 0 := by simpa using hm.2
    have : dif (blw D s) S = 0 := (dif0 hS (blw_lt hD s)).mpr (fun j hj => h j ((dif0 hT (blw_lt hD s)).mp hd j hj))
    simp [this]
  · exact Or.inl rfl
theorem tC_le {a : Nat} (h : tC D n V a) : (V a).toInt ≤ 1000000 := by
  by_cases e : a = 2 ^ n - 1
  · rw [h.1 e]; decide
  · exact (h.2 e).1
/-- to have more is never worse -/
theorem anti (hD : WD D) (hn : n ≤ 8) (h : ∀ a, a < 2 ^ n → tC D n V a) : ∀ d T S, 2 ^ n - T ≤ d → T < 2 ^ n → S < 2 ^ n → sub T S → 0 ≤ (V T).toInt ∧ (V S).toInt ≤ (V T).toInt := by
  have h256 := lt_p2 n (by omega)
  have e6 : (1000000 : Int32).toInt = 1000000 := rfl
  intro d
  induction d with
  | zero => intro T S h1 h2; omega
  | succ d ih =>
    intro T S h1 h2 h3 hs
    by_cases e : T = 2 ^ n - 1
    · have : S = 2 ^ n - 1 := full_eq n (by omega) S h3 (fun j hj => hs j (by rw [e, Nat.testBit_two_pow_sub_one]; simp [hj]))
      rw [e, this, (h _ (by omega)).1 rfl]
      exact ⟨by decide, by decide⟩
    · rcases ((h T h2).2 e).2.2 with hv | ⟨j, ⟨j1, j2⟩, hv⟩
      · rw [hv, e6]
        exact ⟨by omega, tC_le (h S h3)⟩
      · obtain ⟨k, k1, k2⟩ := ne0_ex (tk_lt (D := D) T j) j2
        have kT := (tk_t T j k).mp k2
        have hgt := or_gt2 (a := T) (b := tk D n T j) (may_b kT.2.1) k2
        have ho := or_lt2 h2 (tk_lt (D := D) T j)
        have hsub : ∀ S', sub S S' → (∀ s, s < n → may D s S = true → stf (kd D s) = j → S'.testBit s = true) → sub (T ||| tk D n T j) S' := by
          intro S' hS' hk s hh
          rw [Nat.testBit_or, Bool.or_eq_true] at hh
          rcases hh with hh | hh
          · exact hS' s (hs s hh)
          · have q := (tk_t T j s).mp hh
            rcases may_mono hD (show S < 256 by omega) (show T < 256 by omega) hs q.2.1 with r | r
            · exact hS' s r
            · exact hk s q.1 r q.2.2
        have hself := ih (T ||| tk D n T j) (T ||| tk D n T j) (by omega) ho ho (fun _ h => h)
        have ub := tC_le (h _ ho)
        have ev : (V T).toInt = (V (T ||| tk D n T j)).toInt + 1 := by
          rw [hv, i_add (by rw [show (1 : Int32).toInt = 1 from rfl]; omega)]; rfl
        refine ⟨by omega, ?_⟩
        by_cases ez : tk D n S j = 0
        · have := ih (T ||| tk D n T j) S (by omega) ho h3 (hsub S (fun _ h => h) (fun s s1 s2 s3 => by
            have : (tk D n S j).testBit s = true := (tk_t S j s).mpr ⟨s1, s2, s3⟩
            rw [ez, Nat.zero_testBit] at this; cases this))
          omega
        · have ho2 := or_lt2 h3 (tk_lt (D := D) S j)
          have q := ih (T ||| tk D n T j) (S ||| tk D n S j) (by omega) ho ho2 (hsub _ (fun s hh => by rw [Nat.testBit_or, hh]; rfl) (fun s s1 s2 s3 => by
            rw [Nat.testBit_or, (tk_t S j s).mpr ⟨s1, s2, s3⟩, Bool.or_true]))
          by_cases eS : S = 2 ^ n - 1
          · exfalso
            obtain ⟨k, k1, k2⟩ := ne0_ex (tk_lt (D := D) S j) ez
            have := may_all (D := D) (n := n) k1
            rw [← eS, ((tk_t S j k).mp k2).2.1] at this
            cases this
          · have b := ((h S h3).2 eS).2.1 j ⟨j1, ez⟩
            have hS0 := ih (T ||| tk D n T j) (S ||| tk D n S j) (by omega) ho ho2 (hsub _ (fun s hh => by rw [Nat.testBit_or, hh]; rfl) (fun s s1 s2 s3 => by
              rw [Nat.testBit_or, (tk_t S j s).mpr ⟨s1, s2, s3⟩, Bool.or_true]))
            have lb : -2147483648 ≤ (V (S ||| tk D n S j)).toInt := (i_rng _).1
            rw [i_add (by rw [show (1 : Int32).toInt = 1 from rfl]; omega), show (1 : Int32).toInt = 1 from rfl] at b
            omega
theorem C_to_M (hD : WD D) (hn : n = nS D) (h : ∀ a, a < 2 ^ n → tC D n V a) : ∀ a, a < 2 ^ n → tM D n V a := by
  have n8 := hD.1.2
  have h256 := lt_p2 n (by omega)
  intro a ha
  refine ⟨(h a ha).1, fun e => ?_⟩
  obtain ⟨m1, m2, m3⟩ := (h a ha).2 e
  have hst : ∀ s, s < n → stf (kd D s) < 4 := fun s hs => stf_lt (kd_eq (hD.2.2.2.2.1 s (by omega))).2
  refine ⟨m1, fun q hq => ?_, ?_⟩
  · obtain ⟨q1, q2, q3, q4⟩ := hq
    have hq2 : q < 2 ^ n := by
      rw [← sub_iff] at q2
      have : q ≤ dif (2 ^ n - 1) a := by rw [← q2]; exact Nat.and_le_right
      have : dif (2 ^ n - 1) a ≤ 2 ^ n - 1 := Nat.and_le_left
      have := Nat.two_pow_pos n
      omega
    obtain ⟨k, k1, k2⟩ := ne0_ex hq2 (by omega)
    have hsub : sub q (tk D n a (stf (kd D k))) := fun s hs => (tk_t a _ s).mpr ⟨tb_lt hq2 hs, q3 s (tb_lt hq2 hs) hs, q4 s k (tb_lt hq2 hs) k1 hs k2⟩
    have hne : tk D n a (stf (kd D k)) ≠ 0 := fun e => by
      have := hsub k k2
      rw [e, Nat.zero_testBit] at this; cases this
    have b := m2 _ ⟨hst k k1, hne⟩
    have ho1 := or_lt2 ha hq2
    have ho2 := or_lt2 ha (tk_lt (D := D) a (stf (kd D k)))
    have an := anti hD (by omega) h _ (a ||| q) (a ||| tk D n a (stf (kd D k))) (Nat.le_refl _) ho1 ho2 (fun s hs => by
      rw [Nat.testBit_or, Bool.or_eq_true] at hs ⊢
      rcases hs with hs | hs
      · exact Or.inl hs
      · exact Or.inr (hsub s hs))
    have u1 := tC_le (h _ ho1)
    have u2 := tC_le (h _ ho2)
    have lb : -2147483648 ≤ (V (a ||| tk D n a (stf (kd D k)))).toInt := (i_rng _).1
    rw [i_add (by rw [show (1 : Int32).toInt = 1 from rfl]; omega), show (1 : Int32).toInt = 1 from rfl] at b
    rw [i_add (by rw [show (1 : Int32).toInt = 1 from rfl]; omega), show (1 : Int32).toInt = 1 from rfl]
    omega
  · rcases m3 with e | ⟨j, ⟨j1, j2⟩, j3⟩
    · exact Or.inl e
    · have hp := Nat.two_pow_pos n
      refine Or.inr ⟨tk D n a j, ⟨by omega, fun s hs => ?_, fun s hs ht => ((tk_t a j s).mp ht).2.1, fun s t hs ht h1 h2 => by rw [((tk_t a j s).mp h1).2.2, ((tk_t a j t).mp h2).2.2]⟩, j3⟩
      have q := (tk_t a j s).mp hs
      rw [dif_t (by omega) (by omega), Nat.testBit_two_pow_sub_one, may_b q.2.1]
      simp [q.1]
theorem M_uni (hn : n ≤ 8) (h : ∀ a, a < 2 ^ n → tM D n V a) (h' : ∀ a, a < 2 ^ n → tM D n V' a) : ∀ d a, 2 ^ n - a ≤ d → a < 2 ^ n → V a = V' a := by
  have h256 := lt_p2 n (by omega)
  have hpos := Nat.two_pow_pos n
  intro d
  induction d with
  | zero => intro a h1 h2; omega
  | succ d ih =>
    intro a h1 h2
    by_cases e : a = 2 ^ n - 1
    · rw [(h a h2).1 e, (h' a h2).1 e]
    · refine MinOf.uni ((h a h2).2 e) (((h' a h2).2 e).c (fun _ => Iff.rfl) (fun q hq => ?_))
      obtain ⟨q1, q2, q3⟩ := hq
      have hd : ∀ s, q.testBit s = true → s < n ∧ a.testBit s = false := fun s hs => by
        have := q2 s hs
        rw [dif_t (by omega) (by omega), Bool.and_eq_true, Nat.testBit_two_pow_sub_one] at this
        refine ⟨by simpa using this.1, ?_⟩
        cases ea : a.testBit s
        · rfl
        · rw [ea] at this; exact absurd this.2 (by decide)
      have hq2 : q < 2 ^ n := by
        rw [← sub_iff] at q2
        have : q ≤ dif (2 ^ n - 1) a := by rw [← q2]; exact Nat.and_le_right
        have : dif (2 ^ n - 1) a ≤ 2 ^ n - 1 := Nat.and_le_left
        omega
      obtain ⟨k, k1, k2⟩ := ne0_ex hq2 (by omega)
      have hgt := or_gt2 (hd k k2).2 k2
      show V (a ||| q) + 1 = V' (a ||| q) + 1
      rw [ih (a ||| q) (by omega) (or_lt2 h2 hq2)]
end TI
