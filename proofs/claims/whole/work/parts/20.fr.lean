/-! which cells a function may change -/
def fr (W : List Nat) (I J : HI) : Prop := ∀ c, c ∉ W → J c = I c
section FR
variable {W W' : List Nat} {I J K : HI} {r k : Nat} {v : Int32}
theorem fr.refl : fr W I I := fun _ _ => rfl
theorem fr.trans (h1 : fr W I J) (h2 : fr W J K) : fr W I K := fun c hc => (h2 c hc).trans (h1 c hc)
theorem fr.sub (h : W'.all (fun x => W.contains x) = true) (h1 : fr W' I J) : fr W I J := fun c hc => h1 c (fun hm => hc (by
  have := List.all_eq_true.mp h c hm
  simpa using this))
theorem fr_mem (h : W.contains r = true) : r ∈ W := by simpa using h
theorem fr.wr (h : W.contains r = true) (h1 : fr W I J) : fr W I (xu J r k v) := by
  intro c hc
  have hne : c ≠ r := by rintro rfl; exact hc (fr_mem h)
  exact (xu_ne hne).trans (h1 c hc)
theorem fr.wrow {f : Nat → Int32} (h : W.contains r = true) (h1 : fr W I J) : fr W I (xrow J r f) := by
  intro c hc
  have hne : c ≠ r := by rintro rfl; exact hc (fr_mem h)
  exact (xrow_ne hne).trans (h1 c hc)
theorem fr_sh {s : Nat} (hs : s < 4) (h : ([80, 81, 82, 83] : List Nat).all (fun x => W.contains x) = true) : W.contains (80 + s) = true := by
  have h2 := List.all_eq_true.mp h (80 + s) (by
    rcases (show s = 0 ∨ s = 1 ∨ s = 2 ∨ s = 3 by omega) with rfl | rfl | rfl | rfl <;> decide)
  exact h2
theorem fr.wrS {s : Nat} (hs : s < 4) (h : ([80, 81, 82, 83] : List Nat).all (fun x => W.contains x) = true) (h1 : fr W I J) : fr W I (xu J (80 + s) k v) := fr.wr (fr_sh hs h) h1
theorem fr.wrowS {s : Nat} {f : Nat → Int32} (hs : s < 4) (h : ([80, 81, 82, 83] : List Nat).all (fun x => W.contains x) = true) (h1 : fr W I J) : fr W I (xrow J (80 + s) f) := fr.wrow (fr_sh hs h) h1
end FR
