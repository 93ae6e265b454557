/-! texts: what both readers do, over bytes b 0, .. b (len - 1), for a use u -/
abbrev TStp : Type := Int32 × Int32
abbrev TRes : Type := Nat ⊕ (List TStp × Nat)
def tch (b : Nat → Int32) (len p : Nat) : Int32 := if p < len then b p else -1
def isD (c : Int32) : Bool := decide (48 ≤ c) && decide (c ≤ 57)
def nmf (u : Nat) (c : Int32) : Int32 := if u = 0 then (if c = 99 then 0 else if c = 109 then 1 else if c = 107 then 2 else if c = 104 then 3 else -1) else (if c = 119 then 0 else if c = 107 then 1 else if c = 99 then 2 else -1)
def nml (b : Nat → Int32) (len : Nat) : Nat → Int32 → Nat → Int32 × Nat
  | 0, v, p => (v, p)
  | k + 1, v, p => if isD (tch b len p) = true then nml b len k (v * 10 + tch b len p - 48) (p + 1) else (v, p)
def layl (b : Nat → Int32) (len : Nat) (l : Int32) (X : Nat → TRes) : Nat → List TStp → Nat → TRes
  | 0, _, _ => .inl 0
  | k + 1, acc, p => if M_Text_levelOf (tch b len p) = l then (match X (p + 1) with
      | .inl f => .inl f
      | .inr (st, q) => if l = 2 then .inr (acc ++ st ++ [(tch b len p, 0)], q) else layl b len l X k (acc ++ st ++ [(tch b len p, 0)]) q) else .inr (acc, p)
def lev (b : Nat → Int32) (len : Nat) (l : Int32) (X : Nat → TRes) (p : Nat) : TRes := match X p with
  | .inl f => .inl f
  | .inr (st, q) => layl b len l X 51 st q
def eX (b : Nat → Int32) (len : Nat) (X : Nat → TRes) : Nat → TRes := lev b len 0 (lev b len 1 (lev b len 2 (lev b len 3 (lev b len 4 X))))
def nt (r : TRes) : TRes := match r with
  | .inl f => .inl f
  | .inr (st, q) => .inr (st ++ [(33, 0)], q)
def bk (b : Nat → Int32) (len : Nat) (r : TRes) : TRes := match r with
  | .inl f => .inl f
  | .inr (st, q) => if tch b len q = 41 then .inr (st, q + 1) else .inl q
def lfb (b : Nat → Int32) (len u : Nat) (N B : TRes) (p : Nat) : TRes :=
  if isD (tch b len p) = true then .inr ([(0, (nml b len 4 0 p).1)], (nml b len 4 0 p).2)
  else if tch b len p = 33 then N else if tch b len p = 40 then B
  else if 0 ≤ nmf u (tch b len p) then .inr ([(1, nmf u (tch b len p))], p + 1) else .inl p
def lf (b : Nat → Int32) (len u : Nat) : Nat → (Nat → TRes)
  | 0 => fun p => lfb b len u (.inl p) (.inl p) p
  | k + 1 => fun p => lfb b len u (nt (lf b len u k (p + 1))) (bk b len (eX b len (lf b len u k) (p + 1))) p
theorem tch_m1 {b : Nat → Int32} {len p : Nat} (h : len ≤ p) : tch b len p = -1 := if_neg (by omega)
theorem tch_in {b : Nat → Int32} {len p : Nat} (h : p < len) : tch b len p = b p := if_pos h
theorem lt_of_tch {b : Nat → Int32} {len p : Nat} (h : tch b len p ≠ -1) : p < len := by
  rcases Nat.lt_or_ge p len with q | q
  · exact q
  · exact absurd (tch_m1 q) h
/-! where they come to -/
def gX (len : Nat) (X : Nat → TRes) : Prop := ∀ p, p ≤ len → (∀ f, X p = .inl f → p ≤ f ∧ f ≤ len) ∧ (∀ st q, X p = .inr (st, q) → p < q ∧ q ≤ len ∧ st.length ≤ q - p ∧ 1 ≤ st.length)
section TX
variable {b : Nat → Int32} {len u : Nat} {X : Nat → TRes}
theorem g_nml : ∀ (k : Nat) (v : Int32) (p : Nat), p ≤ len → p ≤ (nml b len k v p).2 ∧ (nml b len k v p).2 ≤ len := by
  intro k
  induction k with
  | zero => intro v p h; exact ⟨Nat.le_refl _, h⟩
  | succ k ih =>
    intro v p h
    unfold nml
    by_cases hd : isD (tch b len p) = true
    · rw [if_pos hd]
      have hl : p < len := lt_of_tch (b := b) (by intro h2; rw [h2] at hd; exact absurd hd (by decide))
      have := ih (v * 10 + tch b len p - 48) (p + 1) hl
      exact ⟨by omega, this.2⟩
    · rw [if_neg hd]; exact ⟨Nat.le_refl _, h⟩
theorem g_layl {l : Int32} (hl : 0 ≤ l) (hX : gX len X) : ∀ (k : Nat) (acc : List TStp) (p : Nat), p ≤ len → len - p < k → (∀ f, layl b len l X k acc p = .inl f → p ≤ f ∧ f ≤ len) ∧ (∀ st q, layl b len l X k acc p = .inr (st, q) → p ≤ q ∧ q ≤ len ∧ ∃ e, st = acc ++ e ∧ e.length ≤ q - p) := by
  intro k
  induction k with
  | zero => intro acc p _ h; omega
  | succ k ih =>
    intro acc p hp hk
    unfold layl
    by_cases h1 : M_Text_levelOf (tch b len p) = l
    · rw [if_pos h1]
      have hlt : p < len := lt_of_tch (b := b) (by intro h2; rw [h2] at h1; rw [← h1] at hl; exact absurd hl (by decide))
      have hx := hX (p + 1) hlt
      cases hr : X (p + 1) with
      | inl f =>
        refine ⟨fun f' h => ?_, fun st q h => by cases h⟩
        cases h
        have := hx.1 f hr
        omega
      | inr r =>
        obtain ⟨st, q⟩ := r
        have hg := hx.2 st q hr
        dsimp only
        by_cases h2 : l = 2
        · rw [if_pos h2]
          refine ⟨fun f' h => (by cases h), fun st' q' h => ?_⟩
          cases h
          refine ⟨by omega, by omega, st ++ [(tch b len p, 0)], by rw [List.append_assoc], ?_⟩
          rw [List.length_append]
          simp
          omega
        · rw [if_neg h2]
          obtain ⟨i1, i2⟩ := ih (acc ++ st ++ [(tch b len p, 0)]) q hg.2.1 (by omega)
          refine ⟨fun f' h => ?_, fun st' q' h => ?_⟩
          · have := i1 f' h; omega
          · obtain ⟨a1, a2, e, a3, a4⟩ := i2 st' q' h
            refine ⟨by omega, a2, st ++ [(tch b len p, 0)] ++ e, by rw [a3]; simp [List.append_assoc], ?_⟩
            simp only [List.length_append, List.length_cons, List.length_nil]
            omega
    · rw [if_neg h1]
      refine ⟨fun f h => (by cases h), fun st q h => ?_⟩
      cases h
      exact ⟨Nat.le_refl _, hp, [], by simp, by simp⟩
theorem g_lev {l : Int32} (hl : 0 ≤ l) (h50 : len ≤ 50) (hX : gX len X) : gX len (lev b len l X) := by
  intro p hp
  have hx := hX p hp
  unfold lev
  cases hr : X p with
  | inl f =>
    refine ⟨fun f' h => ?_, fun st q h => by cases h⟩
    cases h
    exact hx.1 f hr
  | inr r =>
    obtain ⟨st, q⟩ := r
    have hg := hx.2 st q hr
    obtain ⟨i1, i2⟩ := g_layl (b := b) hl hX 51 st q hg.2.1 (by omega)
    refine ⟨fun f' h => ?_, fun st' q' h => ?_⟩
    · have := i1 f' h; omega
    · obtain ⟨a1, a2, e, a3, a4⟩ := i2 st' q' h
      subst a3
      rw [List.length_append]
      omega
theorem g_eX (h50 : len ≤ 50) (hX : gX len X) : gX len (eX b len X) :=
  g_lev (by decide) h50 (g_lev (by decide) h50 (g_lev (by decide) h50 (g_lev (by decide) h50 (g_lev (by decide) h50 hX))))
theorem g_lfb {N B : TRes} {p : Nat} (hp : p ≤ len) (hN : tch b len p = 33 → (∀ f, N = .inl f → p ≤ f ∧ f ≤ len) ∧ (∀ st q, N = .inr (st, q) → p < q ∧ q ≤ len ∧ st.length ≤ q - p ∧ 1 ≤ st.length)) (hB : tch b len p = 40 → (∀ f, B = .inl f → p ≤ f ∧ f ≤ len) ∧ (∀ st q, B = .inr (st, q) → p < q ∧ q ≤ len ∧ st.length ≤ q - p ∧ 1 ≤ st.length)) :
    (∀ f, lfb b len u N B p = .inl f → p ≤ f ∧ f ≤ len) ∧ (∀ st q, lfb b len u N B p = .inr (st, q) → p < q ∧ q ≤ len ∧ st.length ≤ q - p ∧ 1 ≤ st.length) := by
  unfold lfb
  by_cases h1 : isD (tch b len p) = true
  · rw [if_pos h1]
    refine ⟨fun f h => (by cases h), fun st q h => ?_⟩
    cases h
    have hl : p < len := lt_of_tch (b := b) (by intro h2; rw [h2] at h1; exact absurd h1 (by decide))
    have hn : (nml b len 4 0 p) = nml b len 3 (0 * 10 + tch b len p - 48) (p + 1) := by rw [nml, if_pos h1]
    have := g_nml (b := b) (len := len) 3 (0 * 10 + tch b len p - 48) (p + 1) hl
    rw [hn]
    generalize nml b len 3 (0 * 10 + tch b len p - 48) (p + 1) = z at this
    simp only [List.length_cons, List.length_nil]
    omega
  · rw [if_neg h1]
    by_cases h2 : tch b len p = 33
    · rw [if_pos h2]; exact hN h2
    · rw [if_neg h2]
      by_cases h3 : tch b len p = 40
      · rw [if_pos h3]; exact hB h3
      · rw [if_neg h3]
        by_cases h4 : 0 ≤ nmf u (tch b len p)
        · rw [if_pos h4]
          have hl : p < len := lt_of_tch (b := b) (by
            intro h5
            rw [h5] at h4
            unfold nmf at h4
            split at h4 <;> exact absurd h4 (by decide))
          refine ⟨fun f h => (by cases h), fun st q h => ?_⟩
          cases h
          simp
          omega
        · rw [if_neg h4]
          refine ⟨fun f h => ?_, fun st q h => by cases h⟩
          cases h
          exact ⟨Nat.le_refl _, hp⟩
theorem g_lf (h50 : len ≤ 50) : ∀ k, gX len (lf b len u k) := by
  intro k
  induction k with
  | zero =>
    intro p hp
    have : ∀ N : TRes, N = .inl p → (∀ f, N = .inl f → p ≤ f ∧ f ≤ len) ∧ (∀ st q, N = .inr (st, q) → p < q ∧ q ≤ len ∧ st.length ≤ q - p ∧ 1 ≤ st.length) := by
      rintro N rfl
      refine ⟨fun f h => ?_, fun st q h => by cases h⟩
      cases h
      exact ⟨Nat.le_refl _, hp⟩
    exact g_lfb hp (fun _ => this _ rfl) (fun _ => this _ rfl)
  | succ k ih =>
    intro p hp
    refine g_lfb hp (fun hc => ?_) (fun hc => ?_)
    · have hl : p < len := lt_of_tch (b := b) (by rw [hc]; decide)
      have hx := ih (p + 1) hl
      unfold nt
      cases hr : lf b len u k (p + 1) with
      | inl f =>
        refine ⟨fun f' h => ?_, fun st q h => by cases h⟩
        cases h
        have := hx.1 f hr
        omega
      | inr r =>
        obtain ⟨st, q⟩ := r
        have := hx.2 st q hr
        refine ⟨fun f' h => (by cases h), fun st' q' h => ?_⟩
        cases h
        simp only [List.length_append, List.length_cons, List.length_nil]
        omega
    · have hl : p < len := lt_of_tch (b := b) (by rw [hc]; decide)
      have hx := g_eX (b := b) h50 ih (p + 1) hl
      unfold bk
      cases hr : eX b len (lf b len u k) (p + 1) with
      | inl f =>
        refine ⟨fun f' h => ?_, fun st q h => by cases h⟩
        cases h
        have := hx.1 f hr
        omega
      | inr r =>
        obtain ⟨st, q⟩ := r
        have := hx.2 st q hr
        dsimp only
        by_cases h41 : tch b len q = 41
        · rw [if_pos h41]
          have hq : q < len := lt_of_tch (b := b) (by rw [h41]; decide)
          refine ⟨fun f' h => (by cases h), fun st' q' h => ?_⟩
          cases h
          omega
        · rw [if_neg h41]
          refine ⟨fun f' h => ?_, fun st' q' h => by cases h⟩
          cases h
          omega
end TX
/-! what a row of steps gives -/
def jn (op a c : Int32) : Int32 :=
  if op = 38 then (if a = 0 then 0 else if c = 0 then 0 else 1) else if op = 42 then a * c else if op = 43 then a + c else if op = 45 then a - c
  else if op = 47 then (if c = 0 then 0 else a / c) else if op = 60 then (if c ≤ a then 0 else 1) else if op = 61 then (if a = c then 1 else 0) else if op = 62 then (if a ≤ c then 0 else 1)
  else if op = 124 then (if a = 0 then (if c = 0 then 0 else 1) else 1) else (if c = 0 then 0 else a - a / c * c)
theorem jn_eq (op a c : Int32) : M_Text_joined op a c = some (jn op a c) := by
  unfold M_Text_joined jn
  by_cases h1 : op = 38
  · rw [if_pos h1, if_pos h1]; by_cases ha : a = 0
    · rw [if_pos ha, if_pos ha]
    · rw [if_neg ha, if_neg ha]; by_cases hc : c = 0
      · rw [if_pos hc, if_pos hc]
      · rw [if_neg hc, if_neg hc]
  rw [if_neg h1, if_neg h1]
  by_cases h2 : op = 42
  · rw [if_pos h2, if_pos h2]
  rw [if_neg h2, if_neg h2]
  by_cases h3 : op = 43
  · rw [if_pos h3, if_pos h3]
  rw [if_neg h3, if_neg h3]
  by_cases h4 : op = 45
  · rw [if_pos h4, if_pos h4]
  rw [if_neg h4, if_neg h4]
  by_cases h5 : op = 47
  · rw [if_pos h5, if_pos h5]; by_cases hc : c = 0
    · rw [if_pos hc, if_pos hc]
    · rw [if_neg hc, if_neg hc, grd_t (decide_eq_true hc)]
  rw [if_neg h5, if_neg h5]
  by_cases h6 : op = 60
  · rw [if_pos h6, if_pos h6]; by_cases hc : c ≤ a
    · rw [if_pos hc, if_pos hc]
    · rw [if_neg hc, if_neg hc]
  rw [if_neg h6, if_neg h6]
  by_cases h7 : op = 61
  · rw [if_pos h7, if_pos h7]; by_cases hc : a = c
    · rw [if_pos hc, if_pos hc]
    · rw [if_neg hc, if_neg hc]
  rw [if_neg h7, if_neg h7]
  by_cases h8 : op = 62
  · rw [if_pos h8, if_pos h8]; by_cases hc : a ≤ c
    · rw [if_pos hc, if_pos hc]
    · rw [if_neg hc, if_neg hc]
  rw [if_neg h8, if_neg h8]
  by_cases h9 : op = 124
  · rw [if_pos h9, if_pos h9]; by_cases ha : a = 0
    · rw [if_pos ha, if_pos ha]; by_cases hc : c = 0
      · rw [if_pos hc, if_pos hc]
      · rw [if_neg hc, if_neg hc]
    · rw [if_neg ha, if_neg ha]
  rw [if_neg h9, if_neg h9]
  by_cases hc : c = 0
  · rw [if_pos hc, if_pos hc]
  · rw [if_neg hc, if_neg hc, grd_t (decide_eq_true hc)]
/-- one step over a stack (its top first) -/
def rs (a b c d : Int32) (s : TStp) (k : List Int32) : List Int32 :=
  if s.1 = 0 then s.2 :: k else if s.1 = 1 then M_Text_named s.2 a b c d :: k else if s.1 = 33 then (match k with
    | [] => []
    | x :: r => (if x = 0 then 1 else 0) :: r) else (match k with
    | y :: x :: r => jn s.1 x y :: r
    | r => r)
def runS (a b c d : Int32) : List TStp → List Int32 → List Int32
  | [], k => k
  | s :: l, k => runS a b c d l (rs a b c d s k)
theorem runS_app (a b c d : Int32) (l m : List TStp) (k : List Int32) : runS a b c d (l ++ m) k = runS a b c d m (runS a b c d l k) := by
  induction l generalizing k with
  | nil => rfl
  | cons s l ih => exact ih _
def Ev (a b c d : Int32) (l : List TStp) (v : Int32) : Prop := ∀ k, runS a b c d l k = v :: k
theorem Ev.num {a b c d v : Int32} : Ev a b c d [(0, v)] v := fun k => by
  show rs a b c d (0, v) k = v :: k
  unfold rs; rw [if_pos rfl]
theorem Ev.name {a b c d j : Int32} : Ev a b c d [(1, j)] (M_Text_named j a b c d) := fun k => by
  show rs a b c d (1, j) k = _
  unfold rs; rw [if_neg (show ¬ (1 : Int32) = 0 by decide), if_pos rfl]
theorem Ev.not {a b c d v : Int32} {l : List TStp} (h : Ev a b c d l v) : Ev a b c d (l ++ [(33, 0)]) (if v = 0 then 1 else 0) := fun k => by
  rw [runS_app, h k]
  show rs a b c d (33, 0) (v :: k) = _
  unfold rs; rw [if_neg (by decide), if_neg (by decide), if_pos rfl]
theorem Ev.bin {a b c d v w op : Int32} {l m : List TStp} (h0 : op ≠ 0) (h1 : op ≠ 1) (h33 : op ≠ 33) (h : Ev a b c d l v) (h' : Ev a b c d m w) : Ev a b c d (l ++ m ++ [(op, 0)]) (jn op v w) := fun k => by
  rw [runS_app, runS_app, h k, h' (v :: k)]
  show rs a b c d (op, 0) (w :: v :: k) = _
  unfold rs; rw [if_neg h0, if_neg h1, if_neg h33]
theorem Ev.uniq {a b c d v w : Int32} {l : List TStp} (h : Ev a b c d l v) (h' : Ev a b c d l w) : v = w := by
  have := (h []).symm.trans (h' [])
  simpa using this
