/-! pure rows: numbers, guards, cells, loops -/
theorem lt_def {α β : Type} (x : α) (f : α → β) : lt x f = f x := rfl
theorem grd_t {α : Type} {b : Bool} {x : Option α} (h : b = true) : grd b x = x := if_pos h
theorem bnd_nI {k w : Nat} (h : k < w) (hk : k < 2 ^ 31) : bnd (nI k) w = true := by
  unfold bnd
  rw [nI_clamp hk]
  simp only [Bool.and_eq_true, decide_eq_true_eq, Nat.blt_eq]
  exact ⟨nI_pos' hk, h⟩
/-! cells -/
theorem xu_app (I : HI) (r k : Nat) (v : Int32) (q j : Nat) : xu I r k v q j = if q = r then (if j = k then v else I q j) else I q j := by
  unfold xu xrow
  by_cases h : q = r
  · subst h
    rw [if_pos rfl, if_pos rfl]
    by_cases hj : j = k
    · subst hj; rw [if_pos rfl, pk_us]
    · rw [if_neg hj, pk_un hj]
  · rw [if_neg h, if_neg h]
theorem xu_rr {I : HI} {r k : Nat} {v : Int32} : xu I r k v r k = v := by rw [xu_app, if_pos rfl, if_pos rfl]
theorem xu_rn {I : HI} {r k j : Nat} {v : Int32} (h : j ≠ k) : xu I r k v r j = I r j := by rw [xu_app, if_pos rfl, if_neg h]
theorem xu_qn {I : HI} {r k q j : Nat} {v : Int32} (h : q ≠ r) : xu I r k v q j = I q j := by rw [xu_app, if_neg h]
/-! ints: toInt and nI -/
theorem i_eq {x y : Int32} : x = y ↔ x.toInt = y.toInt := ⟨fun h => by rw [h], Int32.toInt_inj.mp⟩
theorem i_lt {x y : Int32} : x < y ↔ x.toInt < y.toInt := Int32.lt_iff_toInt_lt
theorem i_le {x y : Int32} : x ≤ y ↔ x.toInt ≤ y.toInt := Int32.le_iff_toInt_le
theorem i_rng (x : Int32) : -2147483648 ≤ x.toInt ∧ x.toInt ≤ 2147483647 := by
  have h1 := Int32.le_toInt x
  have h2 := Int32.toInt_lt x
  omega
theorem i_nI {x : Int32} (h : 0 ≤ x.toInt) : x = nI x.toInt.toNat := by
  obtain ⟨j, h1, h2⟩ := nI_of (x := x) (by rw [i_lt]; simpa using h)
  subst h2
  rw [nI_toInt h1]
  simp
/-- a number from 0 to N -/
def rg (x : Int32) (N : Nat) : Prop := ∃ a : Nat, a ≤ N ∧ x = nI a
theorem rg_iff {x : Int32} {N : Nat} (hN : N < 2 ^ 31) : rg x N ↔ 0 ≤ x.toInt ∧ x.toInt ≤ N := by
  constructor
  · rintro ⟨a, ha, rfl⟩
    rw [nI_toInt (by omega)]
    omega
  · rintro ⟨h1, h2⟩
    exact ⟨x.toInt.toNat, by omega, i_nI h1⟩
theorem i_add {x y : Int32} (h : -2147483648 ≤ x.toInt + y.toInt ∧ x.toInt + y.toInt ≤ 2147483647) : (x + y).toInt = x.toInt + y.toInt := by
  rw [Int32.toInt_add]
  exact Int.bmod_eq_of_le (by omega) (by omega)
theorem i_sub {x y : Int32} (h : -2147483648 ≤ x.toInt - y.toInt ∧ x.toInt - y.toInt ≤ 2147483647) : (x - y).toInt = x.toInt - y.toInt := by
  rw [Int32.toInt_sub]
  exact Int.bmod_eq_of_le (by omega) (by omega)
theorem i_mul {x y : Int32} (h : -2147483648 ≤ x.toInt * y.toInt ∧ x.toInt * y.toInt ≤ 2147483647) : (x * y).toInt = x.toInt * y.toInt := by
  rw [Int32.toInt_mul]
  exact Int.bmod_eq_of_le (by omega) (by omega)
theorem in_eq (x : Int32) (a b : Int64) : M_Model_in x.toInt64 a b = if a.toInt ≤ x.toInt ∧ x.toInt ≤ b.toInt then 1 else 0 := by
  unfold M_Model_in
  have e : (x.toInt64).toInt = x.toInt := Int32.toInt_toInt64 x
  by_cases h1 : lg_cmp x.toInt64 a < 0
  · rw [if_pos h1, if_neg]
    rw [lg_cmp_lt, Int64.lt_iff_toInt_lt, e] at h1
    omega
  · rw [if_neg h1]
    rw [lg_cmp_lt, Int64.lt_iff_toInt_lt, e] at h1
    by_cases h2 : 0 < lg_cmp x.toInt64 b
    · rw [if_pos h2, if_neg]
      rw [lg_cmp_gt, Int64.lt_iff_toInt_lt, e] at h2
      omega
    · rw [if_neg h2, if_pos]
      rw [lg_cmp_gt, Int64.lt_iff_toInt_lt, e] at h2
      omega
theorem in_nat (x : Int32) {a b : Nat} (ha : a < 2 ^ 31) (hb : b < 2 ^ 31) : M_Model_in x.toInt64 (Int64.ofNat a) (Int64.ofNat b) = if (a : Int) ≤ x.toInt ∧ x.toInt ≤ b then 1 else 0 := by
  rw [in_eq, show (Int64.ofNat a).toInt = (a : Int) from lN_toInt ha, show (Int64.ofNat b).toInt = (b : Int) from lN_toInt hb]
theorem in_int (x : Int32) {a : Nat} {y : Int32} (ha : a < 2 ^ 31) : M_Model_in x.toInt64 (Int64.ofNat a) y.toInt64 = if (a : Int) ≤ x.toInt ∧ x.toInt ≤ y.toInt then 1 else 0 := by
  rw [in_eq, show (Int64.ofNat a).toInt = (a : Int) from lN_toInt ha, Int32.toInt_toInt64]
theorem within_eq (x y : Int32) : M_Wall_within x y = if 0 ≤ x.toInt ∧ x.toInt ≤ y.toInt then 1 else 0 := by
  unfold M_Wall_within
  by_cases h1 : x < 0
  · rw [if_pos h1, if_neg]
    rw [i_lt] at h1
    simp at h1
    omega
  · rw [if_neg h1]
    rw [i_lt] at h1
    simp at h1
    by_cases h2 : y < x
    · rw [if_pos h2, if_neg]
      rw [i_lt] at h2
      omega
    · rw [if_neg h2, if_pos]
      rw [i_lt] at h2
      omega
/-- x is a number below n, or neither side takes it -/
theorem ix_case (x : Int32) (n : Nat) (hn : n < 2 ^ 31) : (∃ s, s < n ∧ x = nI s) ∨ ¬ (0 ≤ x.toInt ∧ x.toInt < n) := by
  by_cases h : 0 ≤ x.toInt ∧ x.toInt < n
  · exact Or.inl ⟨x.toInt.toNat, by omega, i_nI h.1⟩
  · exact Or.inr h
theorem hasS_y {I : HI} {n s : Nat} (h : I 1 1 = nI n) (hn : n < 2 ^ 31) (hs : s < n) : M_Wall_hasStroke I (nI s) = 1 := by
  unfold M_Wall_hasStroke
  rw [h, if_neg (nI_pos (by omega)), if_neg (nI_ge hs hn)]
theorem hasS_n {I : HI} {n : Nat} {x : Int32} (h : I 1 1 = nI n) (hn : n < 2 ^ 31) (hx : ¬ (0 ≤ x.toInt ∧ x.toInt < n)) : M_Wall_hasStroke I x = 0 := by
  unfold M_Wall_hasStroke
  by_cases h1 : x < 0
  · rw [if_pos h1]
  · rw [if_neg h1, if_pos]
    rw [i_lt] at h1
    simp at h1
    rw [h, i_le, nI_toInt hn]
    omega
theorem hasL_y {I : HI} {n s : Nat} (h : I 1 5 = nI n) (hn : n < 2 ^ 31) (hs : s < n) : M_Wall_hasLook I (nI s) = 1 := by
  unfold M_Wall_hasLook
  rw [h, if_neg (nI_pos (by omega)), if_neg (nI_ge hs hn)]
theorem hasL_n {I : HI} {n : Nat} {x : Int32} (h : I 1 5 = nI n) (hn : n < 2 ^ 31) (hx : ¬ (0 ≤ x.toInt ∧ x.toInt < n)) : M_Wall_hasLook I x = 0 := by
  unfold M_Wall_hasLook
  by_cases h1 : x < 0
  · rw [if_pos h1]
  · rw [if_neg h1, if_pos]
    rw [i_lt] at h1
    simp at h1
    rw [h, i_le, nI_toInt hn]
    omega
theorem nI_m1 {n : Nat} (hn : n < 2 ^ 31) : (nI n - 1).toInt = (n : Int) - 1 := by
  rw [i_sub (by rw [nI_toInt hn]; simp; omega), nI_toInt hn]
  rfl
theorem inI (x : Int32) {n : Nat} (hn : n < 2 ^ 31) : M_Model_in x.toInt64 (Int64.ofNat 0) (nI n - 1).toInt64 = if 0 ≤ x.toInt ∧ x.toInt < n then 1 else 0 := by
  rw [in_int x (by decide), nI_m1 hn]
  by_cases h : 0 ≤ x.toInt ∧ x.toInt < n
  · rw [if_pos h, if_pos (by simp; omega)]
  · rw [if_neg h, if_neg (by simp; omega)]
theorem isS_y {I : HI} {n s : Nat} (h : I 89 0 = nI n) (hn : n < 2 ^ 31) (hs : s < n) : M_Model_isStroke I (nI s) = 1 := by
  unfold M_Model_isStroke
  rw [h, inI _ hn, if_pos]
  rw [nI_toInt (by omega)]; omega
theorem isS_n {I : HI} {n : Nat} {x : Int32} (h : I 89 0 = nI n) (hn : n < 2 ^ 31) (hx : ¬ (0 ≤ x.toInt ∧ x.toInt < n)) : M_Model_isStroke I x = 0 := by
  unfold M_Model_isStroke
  rw [h, inI _ hn, if_neg hx]
theorem isL_y {I : HI} {n s : Nat} (h : I 89 1 = nI n) (hn : n < 2 ^ 31) (hs : s < n) : M_Model_isLook I (nI s) = 1 := by
  unfold M_Model_isLook
  rw [h, inI _ hn, if_pos]
  rw [nI_toInt (by omega)]; omega
theorem isL_n {I : HI} {n : Nat} {x : Int32} (h : I 89 1 = nI n) (hn : n < 2 ^ 31) (hx : ¬ (0 ≤ x.toInt ∧ x.toInt < n)) : M_Model_isLook I x = 0 := by
  unfold M_Model_isLook
  rw [h, inI _ hn, if_neg hx]
/-! a loop by its invariant -/
theorem loop_inv {σ ρ : Type} (F : Nat → Nat → σ → Option ρ) (n : Nat) (P : Nat → σ → Prop) (Q : ρ → Prop) (hs : ∀ f i s, i < n → P i s → ∃ s', P (i + 1) s' ∧ F (f + 1) i s = F f (i + 1) s') (he : ∀ f s, P n s → ∃ r, F (f + 1) n s = some r ∧ Q r) : ∀ f i s, i ≤ n → n - i < f → P i s → ∃ r, F f i s = some r ∧ Q r := by
  intro f
  induction f with
  | zero => intro i s _ h; omega
  | succ f ih =>
    intro i s hi hf hP
    rcases Nat.lt_or_ge i n with h | h
    · obtain ⟨s', h1, h2⟩ := hs f i s h hP
      rw [h2]
      exact ih (i + 1) s' h (by omega) h1
    · obtain rfl : i = n := by omega
      exact he f s hP
/-- downwards, to 0 -/
theorem loop_dn {σ ρ : Type} (F : Nat → Nat → σ → Option ρ) (P : Nat → σ → Prop) (Q : ρ → Prop) (hs : ∀ f i s, P (i + 1) s → ∃ s', P i s' ∧ F (f + 1) (i + 1) s = F f i s') (he : ∀ f s, P 0 s → ∃ r, F (f + 1) 0 s = some r ∧ Q r) : ∀ f i s, i < f → P i s → ∃ r, F f i s = some r ∧ Q r := by
  intro f
  induction f with
  | zero => intro i s h; omega
  | succ f ih =>
    intro i s hf hP
    cases i with
    | zero => exact he f s hP
    | succ i =>
      obtain ⟨s', h1, h2⟩ := hs f i s hP
      rw [h2]
      exact ih i s' (by omega) h1
/-! numbers beside constants -/
theorem c_nle {a : Nat} (c : Int32) (b : Nat) (h : a < b) (hc : nI b = c := by rfl) (hb : b < 2 ^ 31 := by decide) : ¬ c ≤ nI a := hc ▸ nI_ge h hb
theorem c_le {a : Nat} (c : Int32) (b : Nat) (h : b ≤ a) (ha : a < 2 ^ 31 := by omega) (hc : nI b = c := by rfl) : c ≤ nI a := hc ▸ nI_le h ha
theorem n_lt {a : Nat} (c : Int32) (b : Nat) (h : a < b) (hc : nI b = c := by rfl) (hb : b < 2 ^ 31 := by decide) : nI a < c := hc ▸ nI_lt h hb
theorem n_nlt {a : Nat} (c : Int32) (b : Nat) (h : b ≤ a) (ha : a < 2 ^ 31 := by omega) (hc : nI b = c := by rfl) : ¬ nI a < c := hc ▸ nI_nlt h ha
theorem n_le {a : Nat} (c : Int32) (b : Nat) (h : a ≤ b) (hc : nI b = c := by rfl) (hb : b < 2 ^ 31 := by decide) : nI a ≤ c := hc ▸ nI_le h hb
theorem n_nle {a : Nat} (c : Int32) (b : Nat) (h : b < a) (ha : a < 2 ^ 31 := by omega) (hc : nI b = c := by rfl) : ¬ nI a ≤ c := hc ▸ nI_ge h ha
theorem c_lt {a : Nat} (c : Int32) (b : Nat) (h : b < a) (ha : a < 2 ^ 31 := by omega) (hc : nI b = c := by rfl) : c < nI a := hc ▸ nI_lt h ha
theorem c_nlt {a : Nat} (c : Int32) (b : Nat) (h : a ≤ b) (hc : nI b = c := by rfl) (hb : b < 2 ^ 31 := by decide) : ¬ c < nI a := hc ▸ nI_nlt h hb
theorem n_ne {a : Nat} (c : Int32) (b : Nat) (h : a ≠ b) (ha : a < 2 ^ 31 := by omega) (hc : nI b = c := by rfl) (hb : b < 2 ^ 31 := by decide) : ¬ nI a = c := hc ▸ fun e => h ((nI_eq ha hb).mp e)
theorem gb0 {α : Type} {x : Option α} : grd (b01 0) x = x := grd_t rfl
theorem gb1 {α : Type} {x : Option α} : grd (b01 1) x = x := grd_t rfl
theorem one0 : ¬ (1 : Int32) = 0 := by decide
