/-! what is sure: pure -/
/-- a sum over what may come -/
def snm (D : Nat → Int32) (S : Nat) (f : Nat → Nat) : Nat → Nat
  | 0 => 0
  | i + 1 => if may D i S = true then snm D S f i + f (S ||| 2 ^ i) else snm D S f i
def cpc (D : Nat → Int32) (n : Nat) (c : Nat → Nat) : Nat → Nat → Nat
  | 0, S => c S
  | f + 1, S => c S + snm D S (cpc D n c f) n
def gp (D : Nat → Int32) (n : Nat) (c : Nat → Nat) (S : Nat) : Nat := cpc D n c (n - pc S) S
/-- in how many ways the others come on S -/
def nv (D : Nat → Int32) (n : Nat) : Nat → Nat := gp D n (fun S => if S = 2 ^ n - 1 then 1 else 0)
/-- in how many of these x comes while y is there -/
def nq (D : Nat → Int32) (n x y : Nat) : Nat → Nat := gp D n (fun S => if S.testBit y = true ∧ may D x S = true then nv D n (S ||| 2 ^ x) else 0)
/-- all that lies below, over those before m -/
def wr (D : Nat → Int32) : Nat → Nat → Nat
  | 0, v => blw D v
  | m + 1, v => if (wr D m v).testBit m = true then wr D m v ||| wr D m m else wr D m v
/-- with each stroke, what lies below it -/
def dc (D : Nat → Int32) (S : Nat) : Prop := ∀ s, S.testBit s = true → sub (blw D s) S
def acy (D : Nat → Int32) (n : Nat) : Prop := ∀ v, v < n → (wr D n v).testBit v = false
theorem pc_lq : ∀ n, n < 9 → ∀ a, a < 2 ^ n → pc a ≤ n := by decide +kernel
theorem pc_fl : ∀ n, n < 9 → pc (2 ^ n - 1) = n := by decide +kernel
section SP
variable {D : Nat → Int32} {n : Nat} {f g c : Nat → Nat}
theorem snm_s (S i : Nat) : snm D S f (i + 1) = if may D i S = true then snm D S f i + f (S ||| 2 ^ i) else snm D S f i := rfl
theorem snm_c {S : Nat} : ∀ k, (∀ i, i < k → may D i S = true → f (S ||| 2 ^ i) = g (S ||| 2 ^ i)) → snm D S f k = snm D S g k := by
  intro k
  induction k with
  | zero => intro _; rfl
  | succ k ih =>
    intro h
    rw [snm_s, snm_s, ih (fun i hi => h i (by omega))]
    by_cases hm : may D k S = true
    · rw [if_pos hm, if_pos hm, h k (by omega) hm]
    · rw [if_neg hm, if_neg hm]
theorem snm_0 {S : Nat} : ∀ k, (∀ i, i < k → may D i S = true → f (S ||| 2 ^ i) = 0) → snm D S f k = 0 := by
  intro k
  induction k with
  | zero => intro _; rfl
  | succ k ih =>
    intro h
    rw [snm_s, ih (fun i hi => h i (by omega))]
    by_cases hm : may D k S = true
    · rw [if_pos hm, h k (by omega) hm]
    · rw [if_neg hm]
theorem snm_ge {S i : Nat} (hm : may D i S = true) : ∀ k, i < k → f (S ||| 2 ^ i) ≤ snm D S f k := by
  intro k
  induction k with
  | zero => intro h; omega
  | succ k ih =>
    intro h
    rw [snm_s]
    by_cases e : i = k
    · subst e
      rw [if_pos hm]; omega
    · have := ih (by omega)
      split <;> omega
theorem snm_le {S b : Nat} : ∀ k, (∀ i, i < k → may D i S = true → f (S ||| 2 ^ i) ≤ b) → snm D S f k ≤ k * b := by
  intro k
  induction k with
  | zero => intro _; exact Nat.zero_le _
  | succ k ih =>
    intro h
    have := ih (fun i hi => h i (by omega))
    rw [snm_s, Nat.succ_mul]
    by_cases hm : may D k S = true
    · have := h k (by omega) hm
      rw [if_pos hm]; omega
    · rw [if_neg hm]; omega
theorem snm_add {S : Nat} : ∀ k, snm D S (fun a => f a + g a) k = snm D S f k + snm D S g k := by
  intro k
  induction k with
  | zero => rfl
  | succ k ih =>
    rw [snm_s, snm_s, snm_s, ih]
    by_cases hm : may D k S = true
    · rw [if_pos hm, if_pos hm, if_pos hm]; omega
    · rw [if_neg hm, if_neg hm, if_neg hm]
theorem snm_pt {S y : Nat} (h0 : g (S ||| 2 ^ y) = 0) : ∀ k, (∀ i, i < k → i ≠ y → may D i S = true → f (S ||| 2 ^ i) = g (S ||| 2 ^ i)) → snm D S f k = (if y < k ∧ may D y S = true then f (S ||| 2 ^ y) else 0) + snm D S g k := by
  intro k
  induction k with
  | zero => intro _; rw [if_neg (fun h => by omega)]; rfl
  | succ k ih =>
    intro h
    rw [snm_s, snm_s, ih (fun i hi => h i (by omega))]
    by_cases e : y = k
    · subst e
      rw [if_neg (show ¬ (y < y ∧ may D y S = true) from fun h => Nat.lt_irrefl _ h.1)]
      by_cases hm : may D y S = true
      · rw [if_pos hm, if_pos hm, if_pos ⟨by omega, hm⟩, h0]; omega
      · rw [if_neg hm, if_neg hm, if_neg (fun h => hm h.2)]
    · have e2 : (if y < k + 1 ∧ may D y S = true then f (S ||| 2 ^ y) else 0) = (if y < k ∧ may D y S = true then f (S ||| 2 ^ y) else 0) := by
        by_cases c1 : y < k ∧ may D y S = true
        · rw [if_pos c1, if_pos ⟨by omega, c1.2⟩]
        · rw [if_neg c1, if_neg (fun h => c1 ⟨by omega, h.2⟩)]
      rw [e2]
      by_cases hm : may D k S = true
      · rw [if_pos hm, if_pos hm, h k (by omega) (fun e' => e e'.symm) hm]; omega
      · rw [if_neg hm, if_neg hm]
theorem gp_rec (hn : n ≤ 8) {S : Nat} (hS : S < 2 ^ n) : gp D n c S = c S + snm D S (gp D n c) n := by
  have h256 := lt_p2 n (by omega)
  unfold gp
  by_cases e : S = 2 ^ n - 1
  · rw [e, pc_fl n (by omega), Nat.sub_self]
    rw [snm_0 n (fun i hi hm => by rw [may_all (n := n) hi] at hm; cases hm)]
    rfl
  · have h1 := pc_lq n (by omega) S hS
    have h2 : pc S ≠ n := fun h => e (full_eq n (by omega) S hS (pc_full n (by omega) S hS h))
    obtain ⟨k, hk⟩ : ∃ k, n - pc S = k + 1 := ⟨n - pc S - 1, by omega⟩
    rw [hk]
    show c S + snm D S (cpc D n c k) n = _
    congr 1
    refine snm_c n (fun i hi hm => ?_)
    have hp := pc_set S (by omega) i (by omega) (may_b hm)
    rw [hp, show n - (pc S + 1) = k by omega]
theorem nv_rec (hn : n ≤ 8) {S : Nat} (hS : S < 2 ^ n) : nv D n S = (if S = 2 ^ n - 1 then 1 else 0) + snm D S (nv D n) n := gp_rec hn hS
theorem nq_rec (hn : n ≤ 8) {x y S : Nat} (hS : S < 2 ^ n) : nq D n x y S = (if S.testBit y = true ∧ may D x S = true then nv D n (S ||| 2 ^ x) else 0) + snm D S (nq D n x y) n := gp_rec hn hS
theorem cpc_le (hn : n ≤ 8) : ∀ k S, cpc D n (fun S => if S = 2 ^ n - 1 then 1 else 0) k S ≤ 9 ^ k := by
  intro k
  induction k with
  | zero =>
    intro S
    show (if S = 2 ^ n - 1 then 1 else 0) ≤ 1
    split <;> omega
  | succ k ih =>
    intro S
    show (if S = 2 ^ n - 1 then 1 else 0) + snm D S _ n ≤ _
    have h1 := snm_le (D := D) (f := cpc D n (fun S => if S = 2 ^ n - 1 then 1 else 0) k) (S := S) n (fun i _ _ => ih _)
    have h2 : n * 9 ^ k ≤ 8 * 9 ^ k := Nat.mul_le_mul_right _ hn
    have h3 : 0 < 9 ^ k := Nat.pow_pos (by decide)
    have h4 : 9 ^ (k + 1) = 9 ^ k * 9 := Nat.pow_succ ..
    split <;> omega
theorem nv_lt (hn : n ≤ 8) (S : Nat) : nv D n S < 2 ^ 31 := by
  have h1 := cpc_le (D := D) hn (n - pc S) S
  have h2 : 9 ^ (n - pc S) ≤ 9 ^ 8 := Nat.pow_le_pow_right (by decide) (by omega)
  have h3 : (9 : Nat) ^ 8 < 2 ^ 31 := by decide
  unfold nv gp
  omega
theorem or_gt3 {S i : Nat} (h : S.testBit i = false) : S < S ||| 2 ^ i := by
  have h1 := or_ge S i
  have h2 := or_ne h
  omega
/-- x and y come in one order or the other -/
theorem nq_sum (hn : n ≤ 8) {x y : Nat} (hx : x < n) (hy : y < n) (hxy : x ≠ y) : ∀ d S, 2 ^ n - S ≤ d → S < 2 ^ n → nq D n x y S + nq D n y x S = if S.testBit x = true ∧ S.testBit y = true then 0 else nv D n S := by
  intro d
  induction d with
  | zero => intro S h1 h2; omega
  | succ d ih =>
    intro S h1 hS
    have hi : ∀ i, i < n → may D i S = true → nq D n x y (S ||| 2 ^ i) + nq D n y x (S ||| 2 ^ i) = if (S ||| 2 ^ i).testBit x = true ∧ (S ||| 2 ^ i).testBit y = true then 0 else nv D n (S ||| 2 ^ i) := fun i hi hm => by
      have := or_gt3 (may_b hm)
      exact ih _ (by omega) (or_lt hS hi)
    have hmx : S.testBit x = true → ¬ may D x S = true := fun h hm => by rw [may_b hm] at h; cases h
    have hmy : S.testBit y = true → ¬ may D y S = true := fun h hm => by rw [may_b hm] at h; cases h
    rw [nq_rec hn hS, nq_rec hn hS]
    have e : ∀ a b s t : Nat, a + s + (b + t) = a + b + (s + t) := fun a b s t => by omega
    rw [e, ← snm_add]
    have nA : ¬ (S.testBit x = true ∧ S.testBit y = true) → (if S.testBit x = true ∧ S.testBit y = true then 0 else nv D n S) = nv D n S := fun h => if_neg h
    have nX : ¬ (S.testBit y = true ∧ may D x S = true) → (if S.testBit y = true ∧ may D x S = true then nv D n (S ||| 2 ^ x) else 0) = 0 := fun h => if_neg h
    have nY : ¬ (S.testBit x = true ∧ may D y S = true) → (if S.testBit x = true ∧ may D y S = true then nv D n (S ||| 2 ^ y) else 0) = 0 := fun h => if_neg h
    have nF : ¬ S = 2 ^ n - 1 → nv D n S = snm D S (nv D n) n := fun h => by rw [nv_rec hn hS, if_neg h, Nat.zero_add]
    by_cases cx : S.testBit x = true
    · by_cases cy : S.testBit y = true
      · rw [if_pos (show S.testBit x = true ∧ S.testBit y = true from ⟨cx, cy⟩), nX (fun h => hmx cx h.2), nY (fun h => hmy cy h.2), snm_0 n (fun i h hm => ?_)]
        show nq D n x y (S ||| 2 ^ i) + nq D n y x (S ||| 2 ^ i) = 0
        rw [hi i h hm, if_pos ⟨by rw [tb_set, cx]; rfl, by rw [tb_set, cy]; rfl⟩]
      · rw [nA (fun h => cy h.2), nX (fun h => cy h.1), Nat.zero_add, nF (fun h => cy (by rw [h, Nat.testBit_two_pow_sub_one]; simp [hy]))]
        rw [snm_pt (f := nv D n) (g := fun a => nq D n x y a + nq D n y x a) (S := S) (y := y) ?_ n ?_]
        · by_cases hm : may D y S = true
          · rw [if_pos ⟨cx, hm⟩, if_pos ⟨hy, hm⟩]
          · rw [if_neg (fun h => hm h.2), if_neg (fun h => hm h.2)]
        · by_cases hm : may D y S = true
          · show nq D n x y (S ||| 2 ^ y) + nq D n y x (S ||| 2 ^ y) = 0
            rw [hi y hy hm, if_pos ⟨by rw [tb_set, cx]; rfl, by rw [tb_set]; simp⟩]
          · have ho := or_lt hS hy
            have := or_gt3 (tb_nt cy)
            show nq D n x y (S ||| 2 ^ y) + nq D n y x (S ||| 2 ^ y) = 0
            rw [ih _ (by omega) ho, if_pos ⟨by rw [tb_set, cx]; rfl, by rw [tb_set]; simp⟩]
        · intro i h1 h2 hm
          show nv D n (S ||| 2 ^ i) = nq D n x y (S ||| 2 ^ i) + nq D n y x (S ||| 2 ^ i)
          rw [hi i h1 hm, if_neg (fun h => by
            have := h.2
            rw [tb_set, tb_nt cy] at this
            simp at this
            exact h2 this)]
    · by_cases cy : S.testBit y = true
      · rw [nA (fun h => cx h.1), nY (fun h => cx h.1), Nat.add_zero, nF (fun h => cx (by rw [h, Nat.testBit_two_pow_sub_one]; simp [hx]))]
        rw [snm_pt (f := nv D n) (g := fun a => nq D n x y a + nq D n y x a) (S := S) (y := x) ?_ n ?_]
        · by_cases hm : may D x S = true
          · rw [if_pos ⟨cy, hm⟩, if_pos ⟨hx, hm⟩]
          · rw [if_neg (fun h => hm h.2), if_neg (fun h => hm h.2)]
        · have ho := or_lt hS hx
          have := or_gt3 (tb_nt cx)
          show nq D n x y (S ||| 2 ^ x) + nq D n y x (S ||| 2 ^ x) = 0
          rw [ih _ (by omega) ho, if_pos ⟨by rw [tb_set]; simp, by rw [tb_set, cy]; rfl⟩]
        · intro i h1 h2 hm
          show nv D n (S ||| 2 ^ i) = nq D n x y (S ||| 2 ^ i) + nq D n y x (S ||| 2 ^ i)
          rw [hi i h1 hm, if_neg (fun h => by
            have := h.1
            rw [tb_set, tb_nt cx] at this
            simp at this
            exact h2 this)]
      · rw [nA (fun h => cx h.1), nX (fun h => cy h.1), nY (fun h => cx h.1), nF (fun h => cx (by rw [h, Nat.testBit_two_pow_sub_one]; simp [hx])), Nat.zero_add]
        refine snm_c n (fun i h1 hm => ?_)
        show nq D n x y (S ||| 2 ^ i) + nq D n y x (S ||| 2 ^ i) = nv D n (S ||| 2 ^ i)
        rw [hi i h1 hm, if_neg (fun h => by
          have a1 := h.1
          have a2 := h.2
          rw [tb_set, tb_nt cx] at a1
          rw [tb_set, tb_nt cy] at a2
          simp at a1 a2
          exact hxy (a1.symm.trans a2))]
/-! what lies below -/
theorem wr_s (m v : Nat) : wr D (m + 1) v = if (wr D m v).testBit m = true then wr D m v ||| wr D m m else wr D m v := rfl
theorem wr_up (m v : Nat) : sub (wr D m v) (wr D (m + 1) v) := fun j hj => by
  rw [wr_s]
  split
  · rw [Nat.testBit_or, hj]; rfl
  · exact hj
theorem wr_blw (v : Nat) : ∀ m, sub (blw D v) (wr D m v) := by
  intro m
  induction m with
  | zero => exact fun _ h => h
  | succ m ih => exact fun j hj => wr_up m v j (ih j hj)
theorem wr_lt (hb : ∀ v, blw D v < 2 ^ n) : ∀ m v, wr D m v < 2 ^ n := by
  intro m
  induction m with
  | zero => exact hb
  | succ m ih =>
    intro v
    rw [wr_s]
    split
    · exact Nat.or_lt_two_pow (ih v) (ih m)
    · exact ih v
theorem wr_in {S : Nat} (hS : dc D S) : ∀ m v, sub (blw D v) S → sub (wr D m v) S := by
  intro m
  induction m with
  | zero => exact fun v h => h
  | succ m ih =>
    intro v h
    rw [wr_s]
    split
    · rename_i hm
      intro j hj
      rw [Nat.testBit_or, Bool.or_eq_true] at hj
      rcases hj with hj | hj
      · exact ih v h j hj
      · exact ih m (hS m (ih v h m hm)) j hj
    · exact ih v h
theorem wr_tr : ∀ m u v, u < m → (wr D m v).testBit u = true → sub (wr D m u) (wr D m v) := by
  intro m
  induction m with
  | zero => intro u v h; omega
  | succ m ih =>
    intro u v hu hv
    have hm : (wr D m v).testBit m = true → sub (wr D m m) (wr D (m + 1) v) := fun h j hj => by
      rw [wr_s, if_pos h, Nat.testBit_or, hj, Bool.or_true]
    have hmv : (wr D (m + 1) v).testBit m = true → (wr D m v).testBit m = true := fun h => by
      rw [wr_s] at h
      by_cases e : (wr D m v).testBit m = true
      · exact e
      · rw [if_neg e] at h; exact h
    by_cases e : u = m
    · subst e
      have h1 := hmv hv
      intro j hj
      rw [wr_s] at hj
      split at hj
      · rw [Nat.testBit_or, Bool.or_self] at hj
        exact hm h1 j hj
      · exact hm h1 j hj
    · have key : (∀ j, (wr D m u).testBit j = true → (wr D (m + 1) v).testBit j = true) := by
        rw [wr_s] at hv
        split at hv
        · rename_i h1
          rw [Nat.testBit_or, Bool.or_eq_true] at hv
          rcases hv with hv | hv
          · exact fun j hj => wr_up m v j (ih u v (by omega) hv j hj)
          · exact fun j hj => hm h1 j (ih u m (by omega) hv j hj)
        · exact fun j hj => wr_up m v j (ih u v (by omega) hv j hj)
      intro j hj
      rw [wr_s] at hj
      split at hj
      · rename_i h2
        rw [Nat.testBit_or, Bool.or_eq_true] at hj
        rcases hj with hj | hj
        · exact key j hj
        · exact hm (hmv (key m h2)) j hj
      · exact key j hj
theorem may_i (hb : ∀ v, blw D v < 256) {i S : Nat} (hS : S < 256) : may D i S = true ↔ S.testBit i = false ∧ sub (blw D i) S := by
  unfold may
  rw [Bool.and_eq_true, decide_eq_true_iff, dif0 hS (hb i)]
  constructor
  · rintro ⟨h1, h2⟩
    exact ⟨by simpa using h1, h2⟩
  · rintro ⟨h1, h2⟩
    exact ⟨by rw [h1]; rfl, h2⟩
theorem dc_or {i S : Nat} (hS : dc D S) (hi : sub (blw D i) S) : dc D (S ||| 2 ^ i) := by
  intro s hs j hj
  rw [tb_set, Bool.or_eq_true] at hs
  rw [tb_set, Bool.or_eq_true]
  rcases hs with hs | hs
  · exact Or.inl (hS s hs j hj)
  · have : i = s := by simpa using hs
    subst this
    exact Or.inl (hi j hj)
theorem nv_acy (hn : n ≤ 8) (hb : ∀ v, blw D v < 2 ^ n) : ∀ d S, 2 ^ n - S ≤ d → S < 2 ^ n → dc D S → 0 < nv D n S → ∀ v, v < n → S.testBit v = false → (wr D n v).testBit v = false := by
  have h256 := lt_p2 n (by omega)
  have hb' : ∀ v, blw D v < 256 := fun v => by have := hb v; omega
  intro d
  induction d with
  | zero => intro S h1 h2; omega
  | succ d ih =>
    intro S h1 hS hd hp v hv hv2
    by_cases e : S = 2 ^ n - 1
    · rw [e, Nat.testBit_two_pow_sub_one] at hv2
      simp [hv] at hv2
    · rw [nv_rec hn hS, if_neg e, Nat.zero_add] at hp
      have hex : ∃ i, i < n ∧ may D i S = true ∧ 0 < nv D n (S ||| 2 ^ i) := Classical.byContradiction fun hne => by
        rw [snm_0 n (fun i hi hm => Classical.byContradiction fun h0 => hne ⟨i, hi, hm, Nat.pos_of_ne_zero h0⟩)] at hp
        omega
      obtain ⟨i, i1, i2, i3⟩ := hex
      obtain ⟨m1, m2⟩ := (may_i hb' (by omega)).mp i2
      by_cases ev : v = i
      · subst ev
        cases ew : (wr D n v).testBit v
        · rfl
        · have := wr_in hd n v m2 v ew
          rw [m1] at this; cases this
      · have := or_gt3 m1
        exact ih (S ||| 2 ^ i) (by omega) (or_lt hS i1) (dc_or hd m2) i3 v hv (by rw [tb_set, hv2]; simp; omega)
/-- one that may come, at or below x -/
theorem low_ex (hn : n ≤ 8) (hb : ∀ v, blw D v < 2 ^ n) (ha : acy D n) {S : Nat} (hS : S < 2 ^ n) : ∀ d x, wr D n x < d → x < n → S.testBit x = false → ∃ i, i < n ∧ may D i S = true ∧ (i = x ∨ (wr D n x).testBit i = true) := by
  have h256 := lt_p2 n (by omega)
  have hb' : ∀ v, blw D v < 256 := fun v => by have := hb v; omega
  intro d
  induction d with
  | zero => intro x h; omega
  | succ d ih =>
    intro x hd hx hx2
    by_cases c : sub (blw D x) S
    · exact ⟨x, hx, (may_i hb' (by omega)).mpr ⟨hx2, c⟩, Or.inl rfl⟩
    · have hex : ∃ b, (blw D x).testBit b = true ∧ S.testBit b = false := Classical.byContradiction fun hne => c (fun j hj => by
        cases e : S.testBit j
        · exact absurd ⟨j, hj, e⟩ hne
        · rfl)
      obtain ⟨b, b1, b2⟩ := hex
      have bn := tb_lt (hb x) b1
      have bx := wr_blw x n b b1
      have hs := wr_tr n b x bn bx
      have hlt : wr D n b < wr D n x := by
        have h1 := sub_lt hs
        have h2 : wr D n b ≠ wr D n x := fun e => by
          have := ha b bn
          rw [e, bx] at this; cases this
        omega
      obtain ⟨i, i1, i2, i3⟩ := ih b (by omega) bn b2
      refine ⟨i, i1, i2, Or.inr ?_⟩
      rcases i3 with rfl | i3
      · exact bx
      · exact hs i i3
theorem acy_nv (hn : n ≤ 8) (hb : ∀ v, blw D v < 2 ^ n) (ha : acy D n) : ∀ d S, 2 ^ n - S ≤ d → S < 2 ^ n → dc D S → 0 < nv D n S := by
  have h256 := lt_p2 n (by omega)
  have hb' : ∀ v, blw D v < 256 := fun v => by have := hb v; omega
  intro d
  induction d with
  | zero => intro S h1 h2; omega
  | succ d ih =>
    intro S h1 hS hd
    rw [nv_rec hn hS]
    by_cases e : S = 2 ^ n - 1
    · rw [if_pos e]; omega
    · have hex : ∃ x, x < n ∧ S.testBit x = false := Classical.byContradiction fun hne => e (full_eq n (by omega) S hS (fun j hj => by
        cases ej : S.testBit j
        · exact absurd ⟨j, hj, ej⟩ hne
        · rfl))
      obtain ⟨x, x1, x2⟩ := hex
      obtain ⟨i, i1, i2, -⟩ := low_ex hn hb ha hS _ x (Nat.lt_succ_self _) x1 x2
      obtain ⟨m1, m2⟩ := (may_i hb' (by omega)).mp i2
      have := or_gt3 m1
      have h3 := ih (S ||| 2 ^ i) (by omega) (or_lt hS i1) (dc_or hd m2)
      have h4 := snm_ge (f := nv D n) i2 n i1
      omega
theorem nq_0 (hn : n ≤ 8) (hb : ∀ v, blw D v < 2 ^ n) {x y : Nat} (hxy : (wr D n y).testBit x = true) : ∀ d S, 2 ^ n - S ≤ d → S < 2 ^ n → dc D S → nq D n x y S = 0 := by
  have h256 := lt_p2 n (by omega)
  have hb' : ∀ v, blw D v < 256 := fun v => by have := hb v; omega
  intro d
  induction d with
  | zero => intro S h1 h2; omega
  | succ d ih =>
    intro S h1 hS hd
    rw [nq_rec hn hS, if_neg (fun h => by
      have := wr_in hd n y (hd y h.1) x hxy
      rw [may_b h.2] at this; cases this), Nat.zero_add]
    refine snm_0 n (fun i hi hm => ?_)
    obtain ⟨m1, m2⟩ := (may_i hb' (by omega)).mp hm
    have := or_gt3 m1
    exact ih _ (by omega) (or_lt hS hi) (dc_or hd m2)
theorem nq_pos (hn : n ≤ 8) (hb : ∀ v, blw D v < 2 ^ n) (ha : acy D n) {x y : Nat} (hx : x < n) (hy : y < n) (hne : x ≠ y) (hxy : (wr D n y).testBit x = false) : ∀ d S, 2 ^ n - S ≤ d → S < 2 ^ n → dc D S → S.testBit x = false → 0 < nq D n x y S := by
  have h256 := lt_p2 n (by omega)
  have hb' : ∀ v, blw D v < 256 := fun v => by have := hb v; omega
  intro d
  induction d with
  | zero => intro S h1 h2; omega
  | succ d ih =>
    intro S h1 hS hd hSx
    rw [nq_rec hn hS]
    have step : ∀ i, i < n → may D i S = true → i ≠ x → 0 < snm D S (nq D n x y) n := fun i i1 i2 i3 => by
      obtain ⟨m1, m2⟩ := (may_i hb' (by omega)).mp i2
      have := or_gt3 m1
      have h3 := ih (S ||| 2 ^ i) (by omega) (or_lt hS i1) (dc_or hd m2) (by rw [tb_set, hSx]; simp; exact i3)
      have h4 := snm_ge (f := nq D n x y) i2 n i1
      omega
    by_cases c : S.testBit y = true
    · obtain ⟨i, i1, i2, -⟩ := low_ex hn hb ha hS _ x (Nat.lt_succ_self _) hx hSx
      by_cases e : i = x
      · subst e
        obtain ⟨m1, m2⟩ := (may_i hb' (by omega)).mp i2
        have := or_gt3 m1
        have h3 := acy_nv hn hb ha _ (S ||| 2 ^ i) (Nat.le_refl _) (or_lt hS i1) (dc_or hd m2)
        rw [if_pos ⟨c, i2⟩]
        omega
      · have := step i i1 i2 e
        omega
    · obtain ⟨i, i1, i2, i3⟩ := low_ex hn hb ha hS _ y (Nat.lt_succ_self _) hy (tb_nt c)
      have := step i i1 i2 (fun e => by
        rcases i3 with h | h
        · exact hne (e.symm.trans h)
        · rw [e, hxy] at h; cases h)
      omega
end SP
