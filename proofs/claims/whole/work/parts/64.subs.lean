/-! sets within a set, downwards -/
theorem sub_next : ∀ (p m q : Nat), p &&& m = p → q &&& m = q → q < p → q ≤ (p - 1) &&& m := by
  intro p
  induction p using Nat.strongRecOn with
  | _ p ih =>
    intro m q hp hq hlt
    have d1 : (p &&& m) / 2 = p / 2 &&& m / 2 := Nat.and_div_two
    have d2 : (q &&& m) / 2 = q / 2 &&& m / 2 := Nat.and_div_two
    have d3 : ((p - 1) &&& m) / 2 = (p - 1) / 2 &&& m / 2 := Nat.and_div_two
    have m1 := Nat.and_mod_two_eq_one (a := p) (b := m)
    have m2 := Nat.and_mod_two_eq_one (a := q) (b := m)
    have m3 := Nat.and_mod_two_eq_one (a := p - 1) (b := m)
    rw [hp] at d1 m1
    rw [hq] at d2 m2
    by_cases e : p % 2 = 1
    · have hh : (p - 1) / 2 = p / 2 := by omega
      rw [hh, ← d1] at d3
      omega
    · have hq2 : q / 2 < p / 2 := by omega
      have i := ih (p / 2) (by omega) (m / 2) (q / 2) d1.symm d2.symm hq2
      have hh : (p - 1) / 2 = p / 2 - 1 := by omega
      have h1 : (p - 1) % 2 = 1 := by omega
      rw [hh] at d3
      by_cases em : m % 2 = 1
      · have := m3.mpr ⟨h1, em⟩
        omega
      · have hq0 : ¬ q % 2 = 1 := fun h => em (m2.mp h).2
        omega
theorem sub_and (x m : Nat) : (x &&& m) &&& m = x &&& m := by rw [Nat.and_assoc, Nat.and_self]
theorem subloop {σ ρ : Type} (F : Nat → Nat → σ → Option ρ) (m : Nat) (P : Nat → σ → Prop) (Q : ρ → Prop) (hs : ∀ f p s, 1 ≤ p → p &&& m = p → P p s → ∃ s', P ((p - 1) &&& m) s' ∧ F (f + 1) p s = F f ((p - 1) &&& m) s') (he : ∀ f s, P 0 s → ∃ r, F (f + 1) 0 s = some r ∧ Q r) : ∀ f p s, p &&& m = p → p < f → P p s → ∃ r, F f p s = some r ∧ Q r := by
  intro f
  induction f with
  | zero => intro p s _ h; omega
  | succ f ih =>
    intro p s hp hf hP
    by_cases e : p = 0
    · subst e; exact he f s hP
    · obtain ⟨s', h1, h2⟩ := hs f p s (by omega) hp hP
      rw [h2]
      have := Nat.and_le_left (n := p - 1) (m := m)
      exact ih _ s' (sub_and _ _) (by omega) h1
theorem sub_iff {q m : Nat} : q &&& m = q ↔ sub q m := by
  constructor
  · intro h j hj
    have : (q &&& m).testBit j = true := by rw [h]; exact hj
    rw [Nat.testBit_and, Bool.and_eq_true] at this
    exact this.2
  · intro h
    apply Nat.eq_of_testBit_eq
    intro j
    rw [Nat.testBit_and]
    cases e : q.testBit j
    · rfl
    · rw [h j e]; rfl
theorem nI_and1 {p m : Nat} (h : 1 ≤ p) : (nI p - 1) &&& nI m = nI ((p - 1) &&& m) := by
  obtain ⟨k, rfl⟩ : ∃ k, p = k + 1 := ⟨p - 1, by omega⟩
  rw [nI_pred, nx_and]
  rfl
/-- the least of some values, 1000000 at most -/
def MinOf (v : Int32) (S : Nat → Prop) (g : Nat → Int32) : Prop := v.toInt ≤ 1000000 ∧ (∀ q, S q → v.toInt ≤ (g q).toInt) ∧ (v = 1000000 ∨ ∃ q, S q ∧ v = g q)
theorem MinOf.uni {v w : Int32} {S : Nat → Prop} {g : Nat → Int32} (h : MinOf v S g) (h' : MinOf w S g) : v = w := by
  have e : (1000000 : Int32).toInt = 1000000 := rfl
  apply Int32.toInt_inj.mp
  rcases h.2.2 with rfl | ⟨q, q1, rfl⟩
  · rcases h'.2.2 with rfl | ⟨r, r1, rfl⟩
    · rfl
    · have := h.2.1 r r1
      have := h'.1
      omega
  · have a := h'.2.1 q q1
    rcases h'.2.2 with rfl | ⟨r, r1, rfl⟩
    · have := h.1
      omega
    · have := h.2.1 r r1
      omega
theorem MinOf.c {v : Int32} {S S' : Nat → Prop} {g g' : Nat → Int32} (h : MinOf v S g) (hS : ∀ q, S' q ↔ S q) (hg : ∀ q, S q → g' q = g q) : MinOf v S' g' := by
  refine ⟨h.1, fun q hq => ?_, ?_⟩
  · rw [hg q ((hS q).mp hq)]; exact h.2.1 q ((hS q).mp hq)
  · rcases h.2.2 with e | ⟨q, q1, q2⟩
    · exact Or.inl e
    · exact Or.inr ⟨q, (hS q).mpr q1, by rw [hg q q1]; exact q2⟩
/-- one more -/
theorem MinOf.add {v : Int32} {S S' : Nat → Prop} {g : Nat → Int32} {q : Nat} (h : MinOf v S g) (hS : ∀ r, S' r ↔ S r ∨ r = q) : MinOf (if v ≤ g q then v else g q) S' g := by
  by_cases c : v ≤ g q
  · rw [if_pos c]
    rw [i_le] at c
    refine ⟨h.1, fun r hr => ?_, ?_⟩
    · rcases (hS r).mp hr with h1 | rfl
      · exact h.2.1 r h1
      · exact c
    · rcases h.2.2 with e | ⟨r, r1, r2⟩
      · exact Or.inl e
      · exact Or.inr ⟨r, (hS r).mpr (Or.inl r1), r2⟩
  · rw [if_neg c]
    rw [i_le] at c
    have h1 := h.1
    refine ⟨by omega, fun r hr => ?_, Or.inr ⟨q, (hS q).mpr (Or.inr rfl), rfl⟩⟩
    rcases (hS r).mp hr with h2 | rfl
    · have := h.2.1 r h2; omega
    · omega
theorem mmin_le (x y : Int32) : mmin x y = if x ≤ y then x else y := by
  unfold mmin
  by_cases c : x ≤ y
  · rw [if_pos c, if_neg (by rw [i_lt]; rw [i_le] at c; omega)]
  · rw [if_neg c, if_pos (by rw [i_lt]; rw [i_le] at c; omega)]
