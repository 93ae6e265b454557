/-! the places of all cells are known: 107 that the constructors make, behind them strokes made later -/
abbrev HI : Type := Nat → Nat → Int32
abbrev HC : Type := Nat × (Nat → Nat) × (Nat → Nat) × (Nat → Nat) × Nat × Nat × Nat
/-- how many cells stand behind the first 107 -/
def hm (C : HC) : Nat := C.1
/-- their classes -/
def hk (C : HC) : Nat → Nat := C.2.1
/-- the wall's strokes, the kept wall's -/
def hT (C : HC) : Nat → Nat := C.2.2.1
def hU (C : HC) : Nat → Nat := C.2.2.2.1
/-- the draft's tape and names, the script's length -/
def hdt (C : HC) : Nat := C.2.2.2.2.1
def hdn (C : HC) : Nat := C.2.2.2.2.2.1
def hL (C : HC) : Nat := C.2.2.2.2.2.2
def kK (C : HC) (r : Nat) : Nat × Nat := if r < 107 then xtab r else if r = 1000000 then (13, hL C) else if r = 1000001 then (13, 7) else (hk C r, 7)
def kP (C : HC) (r k : Nat) : Option Nat := if r = 2 then some (hT C k) else if r = 33 then some (hU C k) else if r = 26 then (if k = 4 then some (hdt C) else if k = 7 then some (hdn C) else xptab 26 k) else xptab r k
/-- the class of a stroke's cell -/
def kc (C : HC) (q : Nat) : Nat := (kK C q).1
def gS (C : HC) (q : Nat) : Bool := Nat.blt q (107 + hm C) && Nat.blt (kc C q) 7
def bnd (i : Int32) (w : Nat) : Bool := decide (0 ≤ i) && Nat.blt i.toNatClampNeg w
def grd {α : Type} (b : Bool) (x : Option α) : Option α := if b = true then x else none
def lt {α β : Type} (x : α) (f : α → β) : β := f x
/-- another draft's tape and names -/
def cD (C : HC) (t n : Nat) : HC := (hm C, hk C, hT C, hU C, t, n, hL C)
/-- a stroke of class c is made -/
def cN (C : HC) (c : Nat) : HC := (hm C + 1, (fun q => if q = 107 + hm C then c else hk C q), hT C, hU C, hdt C, hdn C, hL C)
/-- a stroke's place is taken by another -/
def cT (C : HC) (i q : Nat) : HC := (hm C, hk C, (fun j => if j = i then q else hT C j), hU C, hdt C, hdn C, hL C)
def cU (C : HC) (i q : Nat) : HC := (hm C, hk C, hT C, (fun j => if j = i then q else hU C j), hdt C, hdn C, hL C)
theorem bnd_in {i : Int32} {w : Nat} (h : bnd i w = true) : vp_in i w := by
  unfold bnd at h
  simp only [Bool.and_eq_true, decide_eq_true_eq, Nat.blt_eq] at h
  rintro (h1 | h1)
  · exact absurd h.1 (Int32.not_le.mpr h1)
  · omega
theorem gS_lt {C : HC} {q : Nat} (h : gS C q = true) : q < 107 + hm C := by
  unfold gS at h
  simp only [Bool.and_eq_true, Nat.blt_eq] at h
  exact h.1
theorem gS_k {C : HC} {q : Nat} (h : gS C q = true) : kc C q < 7 := by
  unfold gS at h
  simp only [Bool.and_eq_true, Nat.blt_eq] at h
  exact h.2
theorem kK_pair (C : HC) (q : Nat) : kK C q = (kc C q, (kK C q).2) := rfl
theorem kx_grd {α : Type} {b : Bool} {x : Option α} {r : α} {Q : Prop} (kk : b = true → x = some r → Q) : grd b x = some r → Q := by
  unfold grd
  intro h
  by_cases hb : b = true
  · rw [if_pos hb] at h; exact kk hb h
  · rw [if_neg hb] at h; cases h
theorem kx_bind {α β : Type} {x : Option α} {F : α → Option β} {b : β} {Q : Prop} (kk : ∀ p, x = some p → F p = some b → Q) : x.bind F = some b → Q := by
  intro h
  obtain ⟨p, hp, h2⟩ := Option.bind_eq_some_iff.mp h
  exact kk p hp h2
theorem kx_lt {α β : Type} {x : α} {F : α → β} {b : β} {Q : α → Prop} (kk : ∀ y, y = x → F y = b → Q y) : lt x F = b → Q x := fun h => kk x rfl h
theorem kx_lti {α β : Type} {x : α} {F : α → β} {b : β} {Q : Prop} (kk : ∀ y, x = y → F y = b → Q) : lt x F = b → Q := fun h => kk x rfl h
theorem kx_if {α : Type} {c : Prop} [Decidable c] {a b r : α} {Q : Prop} (h1 : c → a = r → Q) (h2 : ¬ c → b = r → Q) : (if c then a else b) = r → Q := by
  by_cases h : c
  · rw [if_pos h]; exact h1 h
  · rw [if_neg h]; exact h2 h
/-- the judgement over known places -/
def kW (G : xG) (X : xC) (Y : MI) (C : HC) (I : HI) (cells slots pc : Nat) (lv st : List Value) : Prop := aW G X Y (107 + hm C) (kK C) I (kP C) cells slots pc lv st
def kPo (v : Option Value) (C' : HC) (I' : HI) : xPost := fun v0 n' K' J P' => v0 = v ∧ n' = 107 + hm C' ∧ K' = kK C' ∧ J = I' ∧ P' = kP C'
/-- a method's contract: called with these, it returns v and leaves C', I' -/
def kM (G : xG) (d : Nat) (Y : MI) (as : List Value) (C : HC) (I : HI) (mc ms : Nat) (v : Option Value) (C' : HC) (I' : HI) : Prop := cM G d Y as (107 + hm C) (kK C) I (kP C) mc ms (kPo v C' I')
def xgo : Nat → MI → Nat → List Value → List Value → xO
  | 0, _, pc, lv, st => some (pc, lv, st)
  | k + 1, Y, pc, lv, st => match xstep Y pc lv st with
    | some z => xgo k Y z.1 z.2.1 z.2.2
    | none => none
section KX
variable {G : xG} {X : xC} {Y Y' : MI} {d d' mc ms mc' ms' : Nat} {C C' : HC} {I I' : HI} {cells slots pc nx r k q w : Nat} {lv st : List Value} {A : Prop}
theorem lit_lt {C : HC} {r : Nat} (h : r < 107) : r < 107 + hm C := by omega
theorem kK_lit {C : HC} {r : Nat} (h : r < 107) : kK C r = xtab r := if_pos h
theorem ax_go {n : Nat} {K : Nat → Nat × Nat} {P : Nat → Nat → Option Nat} (hX : xAmb G X Y d mc ms) (hY : xpOK Y = true) : ∀ (j pc : Nat) (lv st : List Value) (z : Nat × List Value × List Value), xgo j Y pc lv st = some z → aW G X Y n K I P cells slots z.1 z.2.1 z.2.2 → aW G X Y n K I P cells slots pc lv st := by
  intro j
  induction j with
  | zero => intro pc lv st z h kk; cases h; exact kk
  | succ j ih =>
    intro pc lv st z h kk
    unfold xgo at h
    split at h
    · next y hy => exact ax_step hX hY hy (ih _ _ _ z h kk)
    · cases h
theorem kx_go (j : Nat) {pc' : Nat} {lv' st' : List Value} (hX : xAmb G X Y d mc ms) (hY : xpOK Y = true) (hs : xgo j Y pc lv st = some (pc', lv', st')) (kk : A → kW G X Y C I cells slots pc' lv' st') : A → kW G X Y C I cells slots pc lv st :=
  fun a => ax_go hX hY j pc lv st _ hs (kk a)
/-- forget locals -/
def xsub : List Value → List Value → Prop
  | [], _ => True
  | .null :: l, [] => xsub l []
  | _ :: _, [] => False
  | a :: l, b :: m => (a = .null ∨ a = b) ∧ xsub l m
theorem xsub_get : ∀ (l m : List Value) (i : Nat), xsub l m → xget l i ≠ .null → xget l i = xget m i := by
  intro l
  induction l with
  | nil => intro m i _ h; exact absurd rfl h
  | cons a l ih =>
    intro m i hs h
    cases m with
    | nil =>
      cases a <;> simp only [xsub] at hs
      cases i with
      | zero => exact absurd rfl h
      | succ i => exact ih [] i hs h
    | cons b m =>
      have hs' : (a = .null ∨ a = b) ∧ xsub l m := by cases a <;> exact hs
      cases i with
      | zero =>
        rcases hs'.1 with rfl | rfl
        · exact absurd rfl h
        · rfl
      | succ i => exact ih m i hs'.2 h
theorem kx_weak {lv' : List Value} (h : xsub lv' lv) (kk : A → kW G X Y C I cells slots pc lv' st) : A → kW G X Y C I cells slots pc lv st := by
  intro a H locs ls hR hlo hlv
  refine kk a H locs ls hR hlo ⟨hlv.1, hlv.2.1, fun i hi => ?_⟩
  have := xsub_get _ _ i h hi
  rw [this]
  exact hlv.2.2 i (by rw [← this]; exact hi)
theorem kx_ite {α : Type} {c : Prop} [Decidable c] {a b : Nat} {e1 e2 r : α} (h1 : c → e1 = r → kW G X Y C I cells slots a lv st) (h2 : ¬ c → e2 = r → kW G X Y C I cells slots b lv st) : (if c then e1 else e2) = r → kW G X Y C I cells slots (if c then a else b) lv st := by
  by_cases h : c
  · rw [if_pos h, if_pos h]; exact h1 h
  · rw [if_neg h, if_neg h]; exact h2 h
/-- a branch whose side is known -/
theorem kx_yes {c : Prop} [Decidable c] {a b : Nat} (hc : c) (kk : A → kW G X Y C I cells slots a lv st) : A → kW G X Y C I cells slots (if c then a else b) lv st := by rw [if_pos hc]; exact kk
theorem kx_no {c : Prop} [Decidable c] {a b : Nat} (hc : ¬ c) (kk : A → kW G X Y C I cells slots b lv st) : A → kW G X Y C I cells slots (if c then a else b) lv st := by rw [if_neg hc]; exact kk
/-- a switch -/
theorem kx_sw {α : Type} {x k : Int32} {t df : Nat} {cs : List (Int32 × Nat)} {e1 e2 r : α} (h1 : x = k → e1 = r → kW G X Y C I cells slots t lv st) (h2 : ¬ x = k → e2 = r → kW G X Y C I cells slots (xtsw x cs df) lv st) : (if x = k then e1 else e2) = r → kW G X Y C I cells slots (xtsw x ((k, t) :: cs) df) lv st := by
  by_cases h : x = k
  · rw [if_pos h]; intro q; have := h1 h q; unfold xtsw; rw [if_pos h]; exact this
  · rw [if_neg h]; intro q; have := h2 h q; unfold xtsw; rw [if_neg h]; exact this
theorem kx_sw0 {x : Int32} {df : Nat} (kk : A → kW G X Y C I cells slots df lv st) : A → kW G X Y C I cells slots (xtsw x [] df) lv st := kk
theorem kx_idiv {α : Type} {x y : Int32} {e : Option α} {b : α} (hX : xAmb G X Y d mc ms) (hY : xpOK Y = true) (hs : xis Y pc xq_idiv = some nx) (kk : y ≠ 0 → e = some b → kW G X Y C I cells slots nx lv (.int (x / y) :: st)) : grd (decide (y ≠ 0)) e = some b → kW G X Y C I cells slots pc lv (.int y :: .int x :: st) :=
  kx_grd fun hb h => ax_idiv hX hY hs (of_decide_eq_true hb) (kk (of_decide_eq_true hb) h)
theorem kx_irem {α : Type} {x y : Int32} {e : Option α} {b : α} (hX : xAmb G X Y d mc ms) (hY : xpOK Y = true) (hs : xis Y pc xq_irem = some nx) (kk : y ≠ 0 → e = some b → kW G X Y C I cells slots nx lv (.int (x - x / y * y) :: st)) : grd (decide (y ≠ 0)) e = some b → kW G X Y C I cells slots pc lv (.int y :: .int x :: st) :=
  kx_grd fun hb h => ax_irem hX hY hs (of_decide_eq_true hb) (kk (of_decide_eq_true hb) h)
theorem kx_idivc {x y : Int32} (hX : xAmb G X Y d mc ms) (hY : xpOK Y = true) (hs : xis Y pc xq_idiv = some nx) (hy : ¬ y = 0) (kk : A → kW G X Y C I cells slots nx lv (.int (x / y) :: st)) : A → kW G X Y C I cells slots pc lv (.int y :: .int x :: st) := fun a => ax_idiv hX hY hs hy (kk a)
theorem kx_iremc {x y : Int32} (hX : xAmb G X Y d mc ms) (hY : xpOK Y = true) (hs : xis Y pc xq_irem = some nx) (hy : ¬ y = 0) (kk : A → kW G X Y C I cells slots nx lv (.int (x - x / y * y) :: st)) : A → kW G X Y C I cells slots pc lv (.int y :: .int x :: st) := fun a => ax_irem hX hY hs hy (kk a)
/-! fields -/
def isI (t : FieldType) : Bool := match t with | .int => true | .boolean => true | _ => false
theorem isI_or {t : FieldType} (h : isI t = true) : t = .int ∨ t = .boolean := by cases t <;> simp_all [isI]
/-- an int field of a known object -/
def qI (Y : MI) (pc r : Nat) : Option (Nat × Nat) := bif Nat.blt r 107 then (match xgf Y pc (xtab r).1 with
  | some (k, nx) => bif isI (xty (xtab r).1 k) then some (k, nx) else none
  | none => none) else none
theorem qI_some (h : qI Y pc r = some (k, nx)) : r < 107 ∧ xgf Y pc (xtab r).1 = some (k, nx) ∧ isI (xty (xtab r).1 k) = true := by
  unfold qI at h
  cases hb : Nat.blt r 107 <;> rw [hb] at h
  · cases h
  · dsimp only [cond] at h
    split at h
    · next k' nx' hg =>
      cases hi : isI (xty (xtab r).1 k') <;> rw [hi] at h
      · cases h
      · cases h; exact ⟨by simpa [Nat.blt_eq] using hb, hg, hi⟩
    · cases h
theorem kx_geti (hX : xAmb G X Y d mc ms) (hY : xpOK Y = true) (hC : Y.1.cls = xcn Y.2.2.2.2.2) (hs : qI Y pc r = some (k, nx)) (kk : A → kW G X Y C I cells slots nx lv (.int (I r k) :: st)) : A → kW G X Y C I cells slots pc lv (.ref r :: st) := by
  intro a
  obtain ⟨h1, h2, h3⟩ := qI_some hs
  exact ax_get (v := .int (I r k)) hX hY hC (lit_lt h1) (kK_lit h1) h2 (xfv_int (isI_or h3)) (kk a)
/-- a field of a known object that holds a known cell -/
def qP (Y : MI) (pc r : Nat) : Option (Nat × Nat) := bif Nat.blt r 107 && !(Nat.beq r 26) then (match xgf Y pc (xtab r).1 with
  | some (k, nx) => bif (xty (xtab r).1 k).isReference then (match xptab r k with | some q => some (q, nx) | none => none) else none
  | none => none) else none
theorem xgf_obj {c : Nat} (h : xgf Y pc c = some (k, nx)) : c < 13 := by
  obtain ⟨idx, a, cs, h1, h2⟩ := xgf_some h
  exact (xfk_ok h2).1
theorem kP_obj {C : HC} {r k : Nat} (h1 : r < 107) (hc : (xtab r).1 < 13) (h26 : r ≠ 26) : kP C r k = xptab r k := by
  unfold kP
  have : r ≠ 2 := by rintro rfl; exact absurd hc (by decide)
  have h33 : r ≠ 33 := by rintro rfl; exact absurd hc (by decide)
  rw [if_neg this, if_neg h33, if_neg h26]
theorem qP_some (h : qP Y pc r = some (q, nx)) : r < 107 ∧ r ≠ 26 ∧ ∃ k, xgf Y pc (xtab r).1 = some (k, nx) ∧ (xty (xtab r).1 k).isReference = true ∧ xptab r k = some q := by
  unfold qP at h
  cases hb : (Nat.blt r 107 && !(Nat.beq r 26)) <;> rw [hb] at h
  · cases h
  · dsimp only [cond] at h
    simp only [Bool.and_eq_true, Nat.blt_eq, Bool.not_eq_true'] at hb
    have h26 : r ≠ 26 := by rintro rfl; exact absurd hb.2 (by decide)
    split at h
    · next k' nx' hg =>
      cases hi : (xty (xtab r).1 k').isReference <;> rw [hi] at h
      · cases h
      · dsimp only at h
        split at h
        · next q' hq => cases h; exact ⟨hb.1, h26, k', hg, hi, hq⟩
        · cases h
    · cases h
theorem kx_getp (hX : xAmb G X Y d mc ms) (hY : xpOK Y = true) (hC : Y.1.cls = xcn Y.2.2.2.2.2) (hs : qP Y pc r = some (q, nx)) (kk : A → kW G X Y C I cells slots nx lv (.ref q :: st)) : A → kW G X Y C I cells slots pc lv (.ref r :: st) := by
  intro a
  obtain ⟨h1, h26, k, h2, h3, h4⟩ := qP_some hs
  exact ax_get (v := .ref q) hX hY hC (lit_lt h1) (kK_lit h1) h2 (xfv_ref h3 (by rw [kP_obj h1 (xgf_obj h2) h26]; exact h4)) (kk a)
theorem kx_getdt (hX : xAmb G X Y d mc ms) (hY : xpOK Y = true) (hC : Y.1.cls = xcn Y.2.2.2.2.2) (hs : xgf Y pc 7 = some (4, nx)) (kk : A → kW G X Y C I cells slots nx lv (.ref (hdt C) :: st)) : A → kW G X Y C I cells slots pc lv (.ref 26 :: st) := by
  intro a
  exact ax_get (r := 26) (v := .ref (hdt C)) hX hY hC (lit_lt (by decide)) (kK_lit (by decide)) hs (xfv_ref (c := 7) (k := 4) rfl rfl) (kk a)
theorem kx_getdn (hX : xAmb G X Y d mc ms) (hY : xpOK Y = true) (hC : Y.1.cls = xcn Y.2.2.2.2.2) (hs : xgf Y pc 7 = some (7, nx)) (kk : A → kW G X Y C I cells slots nx lv (.ref (hdn C) :: st)) : A → kW G X Y C I cells slots pc lv (.ref 26 :: st) := by
  intro a
  exact ax_get (r := 26) (v := .ref (hdn C)) hX hY hC (lit_lt (by decide)) (kK_lit (by decide)) hs (xfv_ref (c := 7) (k := 7) rfl rfl) (kk a)
/-- the draft's other fields -/
def qD (Y : MI) (pc : Nat) : Option (Nat × Nat) := match xgf Y pc 7 with
  | some (k, nx) => bif Nat.beq k 0 then some (27, nx) else bif Nat.beq k 1 then some (28, nx) else bif Nat.beq k 3 then some (29, nx) else none
  | none => none
theorem kx_getd (hX : xAmb G X Y d mc ms) (hY : xpOK Y = true) (hC : Y.1.cls = xcn Y.2.2.2.2.2) (hs : qD Y pc = some (q, nx)) (kk : A → kW G X Y C I cells slots nx lv (.ref q :: st)) : A → kW G X Y C I cells slots pc lv (.ref 26 :: st) := by
  intro a
  unfold qD at hs
  split at hs
  · next k nx' hg =>
    by_cases h0 : Nat.beq k 0 = true
    · rw [h0] at hs
      obtain rfl := Nat.eq_of_beq_eq_true h0
      cases hs
      exact ax_get (r := 26) (v := .ref 27) hX hY hC (lit_lt (by decide)) (kK_lit (by decide)) hg (xfv_ref (c := 7) (k := 0) rfl rfl) (kk a)
    · rw [(Bool.not_eq_true _).mp h0] at hs
      by_cases h1 : Nat.beq k 1 = true
      · rw [h1] at hs
        obtain rfl := Nat.eq_of_beq_eq_true h1
        cases hs
        exact ax_get (r := 26) (v := .ref 28) hX hY hC (lit_lt (by decide)) (kK_lit (by decide)) hg (xfv_ref (c := 7) (k := 1) rfl rfl) (kk a)
      · rw [(Bool.not_eq_true _).mp h1] at hs
        by_cases h3 : Nat.beq k 3 = true
        · rw [h3] at hs
          obtain rfl := Nat.eq_of_beq_eq_true h3
          cases hs
          exact ax_get (r := 26) (v := .ref 29) hX hY hC (lit_lt (by decide)) (kK_lit (by decide)) hg (xfv_ref (c := 7) (k := 3) rfl rfl) (kk a)
        · rw [(Bool.not_eq_true _).mp h3] at hs
          cases hs
  · cases hs
/-- a text's cells: itself, steps, values, stack -/
def isT (t : Nat) : Prop := t = 16 ∨ t = 21 ∨ t = 26 ∨ t = 47 ∨ t = 52 ∨ t = 57
theorem isT_lt {t : Nat} (h : isT t) : t < 107 := by unfold isT at h; omega
theorem isT_K {C : HC} {t : Nat} (h : isT t) : kK C t = (7, 0) := by rcases h with rfl | rfl | rfl | rfl | rfl | rfl <;> rfl
theorem isT_P {C : HC} {t k : Nat} (h : isT t) (hk : k = 0 ∨ k = 1 ∨ k = 3) : kP C t k = some (t + (if k = 3 then 3 else k + 1)) := by
  rcases h with rfl | rfl | rfl | rfl | rfl | rfl <;> rcases hk with rfl | rfl | rfl <;> rfl
theorem isT_A {C : HC} {t j : Nat} (h : isT t) (hj : j = 1 ∨ j = 2 ∨ j = 3) : kK C (t + j) = (13, 50) ∧ t + j < 107 := by
  rcases h with rfl | rfl | rfl | rfl | rfl | rfl <;> rcases hj with rfl | rfl | rfl <;> exact ⟨rfl, by decide⟩
theorem kx_getti {t : Nat} (hT : isT t) (hX : xAmb G X Y d mc ms) (hY : xpOK Y = true) (hC : Y.1.cls = xcn Y.2.2.2.2.2) (hs : xgf Y pc 7 = some (k, nx)) (hi : isI (xty 7 k) = true) (kk : A → kW G X Y C I cells slots nx lv (.int (I t k) :: st)) : A → kW G X Y C I cells slots pc lv (.ref t :: st) := by
  intro a
  exact ax_get (v := .int (I t k)) hX hY hC (lit_lt (isT_lt hT)) (isT_K hT) hs (xfv_int (isI_or hi)) (kk a)
theorem kx_gettp {t : Nat} (hT : isT t) (hX : xAmb G X Y d mc ms) (hY : xpOK Y = true) (hC : Y.1.cls = xcn Y.2.2.2.2.2) (hs : xgf Y pc 7 = some (k, nx)) (hk : k = 0 ∨ k = 1 ∨ k = 3) (hj : (if k = 3 then 3 else k + 1) = q) (kk : A → kW G X Y C I cells slots nx lv (.ref (t + q) :: st)) : A → kW G X Y C I cells slots pc lv (.ref t :: st) := by
  intro a
  exact ax_get (v := .ref (t + q)) hX hY hC (lit_lt (isT_lt hT)) (isT_K hT) hs (xfv_ref (c := 7) (by rcases hk with rfl | rfl | rfl <;> rfl) (by rw [isT_P hT hk, hj])) (kk a)
/-- a stroke's field -/
def qS (Y : MI) (pc : Nat) : Option (Nat × Nat) := match xgf Y pc 0 with
  | some (k, nx) => bif (List.range 7).all (fun c => decide (xgf Y pc c = some (k, nx)) && decide (xty c k = .int) && !(xTc c k).2.2.2) then some (k, nx) else none
  | none => none
theorem qS_some (h : qS Y pc = some (k, nx)) {c : Nat} (hc : c < 7) : xgf Y pc c = some (k, nx) ∧ xty c k = .int ∧ (xTc c k).2.2.2 = false := by
  unfold qS at h
  split at h
  · next k' nx' hg =>
    cases hb : (List.range 7).all (fun c => decide (xgf Y pc c = some (k', nx')) && decide (xty c k' = .int) && !(xTc c k').2.2.2) <;> rw [hb] at h
    · cases h
    · cases h
      have := List.all_eq_true.mp hb c (List.mem_range.mpr hc)
      simpa [and_assoc] using this
  · cases h
theorem kx_gets (hq : gS C q = true) (hX : xAmb G X Y d mc ms) (hY : xpOK Y = true) (hC : Y.1.cls = xcn Y.2.2.2.2.2) (hs : qS Y pc = some (k, nx)) (kk : A → kW G X Y C I cells slots nx lv (.int (I q k) :: st)) : A → kW G X Y C I cells slots pc lv (.ref q :: st) := by
  intro a
  obtain ⟨h1, h2, -⟩ := qS_some hs (gS_k hq)
  exact ax_get (v := .int (I q k)) hX hY hC (gS_lt hq) (kK_pair C q) h1 (xfv_int (Or.inl h2)) (kk a)
def qSp (Y : MI) (pc : Nat) : Option (Nat × Nat) := match xpf Y pc 0 with
  | some (k, nx) => bif (List.range 7).all (fun c => decide (xpf Y pc c = some (k, nx)) && decide (xty c k = .int) && !(xTc c k).2.2.2) then some (k, nx) else none
  | none => none
theorem qSp_some (h : qSp Y pc = some (k, nx)) {c : Nat} (hc : c < 7) : xpf Y pc c = some (k, nx) ∧ xty c k = .int ∧ (xTc c k).2.2.2 = false := by
  unfold qSp at h
  split at h
  · next k' nx' hg =>
    cases hb : (List.range 7).all (fun c => decide (xpf Y pc c = some (k', nx')) && decide (xty c k' = .int) && !(xTc c k').2.2.2) <;> rw [hb] at h
    · cases h
    · cases h
      have := List.all_eq_true.mp hb c (List.mem_range.mpr hc)
      simpa [and_assoc] using this
  · cases h
theorem kx_puts {x : Int32} (hq : gS C q = true) (hX : xAmb G X Y d mc ms) (hY : xpOK Y = true) (hC : Y.1.cls = xcn Y.2.2.2.2.2) (hs : qSp Y pc = some (k, nx)) (kk : A → kW G X Y C (xu I q k x) cells slots nx lv st) : A → kW G X Y C I cells slots pc lv (.int x :: .ref q :: st) := by
  intro a
  obtain ⟨h1, h2, h3⟩ := qSp_some hs (gS_k hq)
  exact ax_puti hX hY hC (gS_lt hq) (kK_pair C q) h1 h3 (Or.inl h2) (kk a)
def qIp (Y : MI) (pc r : Nat) : Option (Nat × Nat) := bif Nat.blt r 107 then (match xpf Y pc (xtab r).1 with
  | some (k, nx) => bif !(xTc (xtab r).1 k).2.2.2 then some (k, nx) else none
  | none => none) else none
theorem qIp_some (h : qIp Y pc r = some (k, nx)) : r < 107 ∧ xpf Y pc (xtab r).1 = some (k, nx) ∧ (xTc (xtab r).1 k).2.2.2 = false := by
  unfold qIp at h
  cases hb : Nat.blt r 107 <;> rw [hb] at h
  · cases h
  · dsimp only [cond] at h
    split at h
    · next k' nx' hg =>
      cases hi : (xTc (xtab r).1 k').2.2.2 <;> rw [hi] at h
      · cases h; exact ⟨by simpa [Nat.blt_eq] using hb, hg, hi⟩
      · cases h
    · cases h
theorem kx_puti {x : Int32} (hX : xAmb G X Y d mc ms) (hY : xpOK Y = true) (hC : Y.1.cls = xcn Y.2.2.2.2.2) (hs : qIp Y pc r = some (k, nx)) (ht : xty (xtab r).1 k = .int) (kk : A → kW G X Y C (xu I r k x) cells slots nx lv st) : A → kW G X Y C I cells slots pc lv (.int x :: .ref r :: st) := by
  intro a
  obtain ⟨h1, h2, h3⟩ := qIp_some hs
  exact ax_puti hX hY hC (lit_lt h1) (kK_lit h1) h2 h3 (Or.inl ht) (kk a)
theorem kx_putz {x : Int32} (hX : xAmb G X Y d mc ms) (hY : xpOK Y = true) (hC : Y.1.cls = xcn Y.2.2.2.2.2) (hs : qIp Y pc r = some (k, nx)) (ht : xty (xtab r).1 k = .boolean) (hx : x = 0 ∨ x = 1) (kk : A → kW G X Y C (xu I r k x) cells slots nx lv st) : A → kW G X Y C I cells slots pc lv (.int x :: .ref r :: st) := by
  intro a
  obtain ⟨h1, h2, h3⟩ := qIp_some hs
  exact ax_puti hX hY hC (lit_lt h1) (kK_lit h1) h2 h3 (Or.inr ⟨ht, hx⟩) (kk a)
theorem kx_putti {t : Nat} {x : Int32} (hT : isT t) (hX : xAmb G X Y d mc ms) (hY : xpOK Y = true) (hC : Y.1.cls = xcn Y.2.2.2.2.2) (hs : xpf Y pc 7 = some (k, nx)) (hf : (xTc 7 k).2.2.2 = false) (ht : xty 7 k = .int) (kk : A → kW G X Y C (xu I t k x) cells slots nx lv st) : A → kW G X Y C I cells slots pc lv (.int x :: .ref t :: st) := by
  intro a
  exact ax_puti hX hY hC (lit_lt (isT_lt hT)) (isT_K hT) hs hf (Or.inl ht) (kk a)
/-! arrays at known cells -/
def qA (Y : MI) (pc r c : Nat) (f : Instr → Bool) : Option (Nat × Nat) := bif Nat.blt r 107 && Nat.beq (xtab r).1 c then (match xis Y pc f with | some nx => some ((xtab r).2, nx) | none => none) else none
theorem qA_some {c : Nat} {f : Instr → Bool} (h : qA Y pc r c f = some (w, nx)) : r < 107 + hm C ∧ kK C r = (c, w) ∧ xis Y pc f = some nx := by
  unfold qA at h
  cases hb : (Nat.blt r 107 && Nat.beq (xtab r).1 c) <;> rw [hb] at h
  · cases h
  · simp only [Bool.and_eq_true, Nat.blt_eq] at hb
    dsimp only [cond] at h
    split at h
    · next nx' hx =>
      cases h
      exact ⟨lit_lt hb.1, by rw [kK_lit hb.1, ← Nat.eq_of_beq_eq_true hb.2], hx⟩
    · cases h
theorem kx_iald {α : Type} {i : Int32} {e : Option α} {b : α} (hX : xAmb G X Y d mc ms) (hY : xpOK Y = true) (hs : qA Y pc r 13 xq_iald = some (w, nx)) (kk : bnd i w = true → e = some b → kW G X Y C I cells slots nx lv (.int (I r i.toNatClampNeg) :: st)) : grd (bnd i w) e = some b → kW G X Y C I cells slots pc lv (.int i :: .ref r :: st) :=
  kx_grd fun hb h => ax_iald hX hY (qA_some hs).1 (qA_some hs).2.1 (qA_some (C := C) hs).2.2 (bnd_in hb) (kk hb h)
theorem kx_ialdc {i : Int32} (hX : xAmb G X Y d mc ms) (hY : xpOK Y = true) (hs : qA Y pc r 13 xq_iald = some (w, nx)) (hb : bnd i w = true) (hi : i.toNatClampNeg = k) (kk : A → kW G X Y C I cells slots nx lv (.int (I r k) :: st)) : A → kW G X Y C I cells slots pc lv (.int i :: .ref r :: st) :=
  fun a => ax_iald hX hY (qA_some hs).1 (qA_some hs).2.1 (qA_some (C := C) hs).2.2 (bnd_in hb) (by rw [hi]; exact kk a)
theorem kx_bald {α : Type} {i : Int32} {e : Option α} {b : α} (hX : xAmb G X Y d mc ms) (hY : xpOK Y = true) (hs : qA Y pc r 14 xq_bald = some (w, nx)) (kk : bnd i w = true → e = some b → kW G X Y C I cells slots nx lv (.int (I r i.toNatClampNeg) :: st)) : grd (bnd i w) e = some b → kW G X Y C I cells slots pc lv (.int i :: .ref r :: st) :=
  kx_grd fun hb h => ax_bald hX hY (qA_some hs).1 (qA_some hs).2.1 (qA_some (C := C) hs).2.2 (bnd_in hb) (kk hb h)
theorem kx_iast {α : Type} {i x : Int32} {e : Option α} {b : α} (hX : xAmb G X Y d mc ms) (hY : xpOK Y = true) (hs : qA Y pc r 13 xq_iast = some (w, nx)) (kk : bnd i w = true → e = some b → kW G X Y C (xu I r i.toNatClampNeg x) cells slots nx lv st) : grd (bnd i w) e = some b → kW G X Y C I cells slots pc lv (.int x :: .int i :: .ref r :: st) :=
  kx_grd fun hb h => ax_iast hX hY (qA_some hs).1 (qA_some hs).2.1 (qA_some (C := C) hs).2.2 (bnd_in hb) (kk hb h)
theorem kx_iastc {i x : Int32} (hX : xAmb G X Y d mc ms) (hY : xpOK Y = true) (hs : qA Y pc r 13 xq_iast = some (w, nx)) (hb : bnd i w = true) (hi : i.toNatClampNeg = k) (kk : A → kW G X Y C (xu I r k x) cells slots nx lv st) : A → kW G X Y C I cells slots pc lv (.int x :: .int i :: .ref r :: st) :=
  fun a => ax_iast hX hY (qA_some hs).1 (qA_some hs).2.1 (qA_some (C := C) hs).2.2 (bnd_in hb) (by rw [hi]; exact kk a)
theorem nar01 {x : Int32} (h : x = 0 ∨ x = 1) : vp_nar .boolean x = x := by rcases h with rfl | rfl <;> rfl
theorem kx_bast {α : Type} {i x : Int32} {e : Option α} {b : α} (hX : xAmb G X Y d mc ms) (hY : xpOK Y = true) (hs : qA Y pc r 14 xq_bast = some (w, nx)) (hx : x = 0 ∨ x = 1) (kk : bnd i w = true → e = some b → kW G X Y C (xu I r i.toNatClampNeg x) cells slots nx lv st) : grd (bnd i w) e = some b → kW G X Y C I cells slots pc lv (.int x :: .int i :: .ref r :: st) :=
  kx_grd fun hb h => ax_bast hX hY (qA_some hs).1 (qA_some hs).2.1 (qA_some (C := C) hs).2.2 (bnd_in hb) (by rw [nar01 hx]; exact kk hb h)
theorem kx_bastc {i x : Int32} (hX : xAmb G X Y d mc ms) (hY : xpOK Y = true) (hs : qA Y pc r 14 xq_bast = some (w, nx)) (hx : x = 0 ∨ x = 1) (hb : bnd i w = true) (hi : i.toNatClampNeg = k) (kk : A → kW G X Y C (xu I r k x) cells slots nx lv st) : A → kW G X Y C I cells slots pc lv (.int x :: .int i :: .ref r :: st) :=
  fun a => ax_bast hX hY (qA_some hs).1 (qA_some hs).2.1 (qA_some (C := C) hs).2.2 (bnd_in hb) (by rw [nar01 hx, hi]; exact kk a)
theorem kx_alen (hX : xAmb G X Y d mc ms) (hY : xpOK Y = true) (hs : qA Y pc r 13 xq_alen = some (w, nx)) {y : Int32} (hy : nI w = y) (kk : A → kW G X Y C I cells slots nx lv (.int y :: st)) : A → kW G X Y C I cells slots pc lv (.ref r :: st) :=
  fun a => ax_alen hX hY (qA_some hs).1 (qA_some hs).2.1 (Or.inl rfl) (qA_some (C := C) hs).2.2 (by rw [hy]; exact kk a)
/-! arrays at cells that are known by their kind alone: hk says K q = (13, w) -/
def kA (C : HC) (q w : Nat) : Prop := q < 107 + hm C ∧ kK C q = (13, w)
theorem kx_qald {α : Type} {i : Int32} {e : Option α} {b : α} (hq : kA C q w) (hX : xAmb G X Y d mc ms) (hY : xpOK Y = true) (hs : xis Y pc xq_iald = some nx) (kk : bnd i w = true → e = some b → kW G X Y C I cells slots nx lv (.int (I q i.toNatClampNeg) :: st)) : grd (bnd i w) e = some b → kW G X Y C I cells slots pc lv (.int i :: .ref q :: st) :=
  kx_grd fun hb h => ax_iald hX hY hq.1 hq.2 hs (bnd_in hb) (kk hb h)
theorem kx_qaldc {i : Int32} (hq : kA C q w) (hX : xAmb G X Y d mc ms) (hY : xpOK Y = true) (hs : xis Y pc xq_iald = some nx) (hb : bnd i w = true) (hi : i.toNatClampNeg = k) (kk : A → kW G X Y C I cells slots nx lv (.int (I q k) :: st)) : A → kW G X Y C I cells slots pc lv (.int i :: .ref q :: st) :=
  fun a => ax_iald hX hY hq.1 hq.2 hs (bnd_in hb) (by rw [hi]; exact kk a)
theorem kx_qast {α : Type} {i x : Int32} {e : Option α} {b : α} (hq : kA C q w) (hX : xAmb G X Y d mc ms) (hY : xpOK Y = true) (hs : xis Y pc xq_iast = some nx) (kk : bnd i w = true → e = some b → kW G X Y C (xu I q i.toNatClampNeg x) cells slots nx lv st) : grd (bnd i w) e = some b → kW G X Y C I cells slots pc lv (.int x :: .int i :: .ref q :: st) :=
  kx_grd fun hb h => ax_iast hX hY hq.1 hq.2 hs (bnd_in hb) (kk hb h)
theorem kx_qlen (hq : kA C q w) (hX : xAmb G X Y d mc ms) (hY : xpOK Y = true) (hs : xis Y pc xq_alen = some nx) {y : Int32} (hy : nI w = y) (kk : A → kW G X Y C I cells slots nx lv (.int y :: st)) : A → kW G X Y C I cells slots pc lv (.ref q :: st) :=
  fun a => ax_alen hX hY hq.1 hq.2 (Or.inl rfl) hs (by rw [hy]; exact kk a)
theorem isT_kA {t j : Nat} (h : isT t) (hj : j = 1 ∨ j = 2 ∨ j = 3) : kA C (t + j) 50 := ⟨lit_lt (isT_A (C := C) h hj).2, (isT_A h hj).1⟩
theorem sh_kA {s : Nat} (h : s < 4) : kA C (80 + s) 40 := by
  rcases (show s = 0 ∨ s = 1 ∨ s = 2 ∨ s = 3 by omega) with rfl | rfl | rfl | rfl <;> exact ⟨lit_lt (by decide), rfl⟩
/-- the old arrays: the script, MOST_OF_PART -/
theorem kx_oald {α : Type} {j : Nat} {i : Int32} {e : Option α} {b : α} (hj : j < 2) (hk : (kK C (1000000 + j)).2 = w) (hX : xAmb G X Y d mc ms) (hY : xpOK Y = true) (hs : xis Y pc xq_iald = some nx) (kk : bnd i w = true → e = some b → kW G X Y C I cells slots nx lv (.int (I (1000000 + j) i.toNatClampNeg) :: st)) : grd (bnd i w) e = some b → kW G X Y C I cells slots pc lv (.int i :: .ref (1000000 + j) :: st) :=
  kx_grd fun hb h => ax_oald hX hY hj hk hs (bnd_in hb) (kk hb h)
theorem kx_oaldk {j : Nat} {i : Int32} (hb : bnd i w = true) (hj : j < 2) (hk : (kK C (1000000 + j)).2 = w) (hX : xAmb G X Y d mc ms) (hY : xpOK Y = true) (hs : xis Y pc xq_iald = some nx) (kk : A → kW G X Y C I cells slots nx lv (.int (I (1000000 + j) i.toNatClampNeg) :: st)) : A → kW G X Y C I cells slots pc lv (.int i :: .ref (1000000 + j) :: st) :=
  fun z => ax_oald hX hY hj hk hs (bnd_in hb) (kk z)
theorem kx_baldk {i : Int32} (hb : bnd i w = true) (hX : xAmb G X Y d mc ms) (hY : xpOK Y = true) (hs : qA Y pc r 14 xq_bald = some (w, nx)) (kk : A → kW G X Y C I cells slots nx lv (.int (I r i.toNatClampNeg) :: st)) : A → kW G X Y C I cells slots pc lv (.int i :: .ref r :: st) :=
  fun z => ax_bald hX hY (qA_some hs).1 (qA_some hs).2.1 (qA_some (C := C) hs).2.2 (bnd_in hb) (kk z)
theorem kx_qastc {i x : Int32} (hq : kA C q w) (hX : xAmb G X Y d mc ms) (hY : xpOK Y = true) (hs : xis Y pc xq_iast = some nx) (hb : bnd i w = true) (hi : i.toNatClampNeg = k) (kk : A → kW G X Y C (xu I q k x) cells slots nx lv st) : A → kW G X Y C I cells slots pc lv (.int x :: .int i :: .ref q :: st) :=
  fun z => ax_iast hX hY hq.1 hq.2 hs (bnd_in hb) (by rw [hi]; exact kk z)
theorem kx_olen {j : Nat} (hj : j < 2) (hk : (kK C (1000000 + j)).2 = w) (hX : xAmb G X Y d mc ms) (hY : xpOK Y = true) (hs : xis Y pc xq_alen = some nx) {y : Int32} (hy : nI w = y) (kk : A → kW G X Y C I cells slots nx lv (.int y :: st)) : A → kW G X Y C I cells slots pc lv (.ref (1000000 + j) :: st) :=
  fun a => ax_olen hX hY hj hk hs (by rw [hy]; exact kk a)
/-- arrays of references -/
theorem kx_aaT {α : Type} {i : Int32} {e : Option α} {b : α} (hX : xAmb G X Y d mc ms) (hY : xpOK Y = true) (hs : xis Y pc xq_aald = some nx) (kk : bnd i 8 = true → gS C (hT C i.toNatClampNeg) = true → e = some b → kW G X Y C I cells slots nx lv (.ref (hT C i.toNatClampNeg) :: st)) : grd (bnd i 8 && gS C (hT C i.toNatClampNeg)) e = some b → kW G X Y C I cells slots pc lv (.int i :: .ref 2 :: st) :=
  kx_grd fun hb h => by
    rw [Bool.and_eq_true] at hb
    exact ax_aald (c := 15) (w := 8) (r := 2) hX hY (lit_lt (by decide)) (kK_lit (by decide)) (by decide) hs (bnd_in hb.1) (q := hT C i.toNatClampNeg) rfl (kk hb.1 hb.2 h)
theorem kx_aaTk {i : Int32} (hb : bnd i 8 = true) (hX : xAmb G X Y d mc ms) (hY : xpOK Y = true) (hs : xis Y pc xq_aald = some nx) (kk : A → kW G X Y C I cells slots nx lv (.ref (hT C i.toNatClampNeg) :: st)) : A → kW G X Y C I cells slots pc lv (.int i :: .ref 2 :: st) :=
  fun z => ax_aald (c := 15) (w := 8) (r := 2) hX hY (lit_lt (by decide)) (kK_lit (by decide)) (by decide) hs (bnd_in hb) (q := hT C i.toNatClampNeg) rfl (kk z)
theorem kx_aaU {α : Type} {i : Int32} {e : Option α} {b : α} (hX : xAmb G X Y d mc ms) (hY : xpOK Y = true) (hs : xis Y pc xq_aald = some nx) (kk : bnd i 8 = true → gS C (hU C i.toNatClampNeg) = true → e = some b → kW G X Y C I cells slots nx lv (.ref (hU C i.toNatClampNeg) :: st)) : grd (bnd i 8 && gS C (hU C i.toNatClampNeg)) e = some b → kW G X Y C I cells slots pc lv (.int i :: .ref 33 :: st) :=
  kx_grd fun hb h => by
    rw [Bool.and_eq_true] at hb
    exact ax_aald (c := 15) (w := 8) (r := 33) hX hY (lit_lt (by decide)) (kK_lit (by decide)) (by decide) hs (bnd_in hb.1) (q := hU C i.toNatClampNeg) rfl (kk hb.1 hb.2 h)
theorem kx_aaUk {i : Int32} (hb : bnd i 8 = true) (hX : xAmb G X Y d mc ms) (hY : xpOK Y = true) (hs : xis Y pc xq_aald = some nx) (kk : A → kW G X Y C I cells slots nx lv (.ref (hU C i.toNatClampNeg) :: st)) : A → kW G X Y C I cells slots pc lv (.int i :: .ref 33 :: st) :=
  fun z => ax_aald (c := 15) (w := 8) (r := 33) hX hY (lit_lt (by decide)) (kK_lit (by decide)) (by decide) hs (bnd_in hb) (q := hU C i.toNatClampNeg) rfl (kk z)
theorem bnd_lt {i : Int32} {w : Nat} (h : bnd i w = true) : i.toNatClampNeg < w := by
  unfold bnd at h
  simp only [Bool.and_eq_true, decide_eq_true_eq, Nat.blt_eq] at h
  exact h.2
theorem kx_aaX {α : Type} {i : Int32} {e : Option α} {b : α} (hX : xAmb G X Y d mc ms) (hY : xpOK Y = true) (hs : xis Y pc xq_aald = some nx) (hr : r = 15 ∨ r = 46) (kk : bnd i 2 = true → isT (r + 1 + 5 * i.toNatClampNeg) → e = some b → kW G X Y C I cells slots nx lv (.ref (r + 1 + 5 * i.toNatClampNeg) :: st)) : grd (bnd i 2) e = some b → kW G X Y C I cells slots pc lv (.int i :: .ref r :: st) :=
  kx_grd fun hb h => by
    have hl := bnd_lt hb
    have h1 : r < 107 := by omega
    have h2 : kK C r = (16, 2) := by rcases hr with rfl | rfl <;> rfl
    have h3 : kP C r i.toNatClampNeg = some (r + 1 + 5 * i.toNatClampNeg) := by
      rcases (show i.toNatClampNeg = 0 ∨ i.toNatClampNeg = 1 by omega) with h | h <;> rw [h] <;> rcases hr with rfl | rfl <;> rfl
    have h4 : isT (r + 1 + 5 * i.toNatClampNeg) := by unfold isT; omega
    exact ax_aald (c := 16) (w := 2) hX hY (lit_lt h1) h2 (by decide) hs (bnd_in hb) h3 (kk hb h4 h)
theorem kx_aaXc {i : Int32} (hX : xAmb G X Y d mc ms) (hY : xpOK Y = true) (hs : xis Y pc xq_aald = some nx) (hr : r = 15 ∨ r = 46) (hb : bnd i 2 = true) (hq : r + 1 + 5 * i.toNatClampNeg = q) (kk : A → kW G X Y C I cells slots nx lv (.ref q :: st)) : A → kW G X Y C I cells slots pc lv (.int i :: .ref r :: st) := by
  intro a
  refine kx_aaX (α := Unit) (e := some ()) (b := ()) hX hY hs hr (fun _ _ _ => ?_) (by unfold grd; rw [if_pos hb])
  rw [hq]; exact kk a
theorem kx_aaG {α : Type} {i : Int32} {e : Option α} {b : α} (hX : xAmb G X Y d mc ms) (hY : xpOK Y = true) (hs : xis Y pc xq_aald = some nx) (kk : bnd i 4 = true → kA C (80 + i.toNatClampNeg) 40 → e = some b → kW G X Y C I cells slots nx lv (.ref (80 + i.toNatClampNeg) :: st)) : grd (bnd i 4) e = some b → kW G X Y C I cells slots pc lv (.int i :: .ref 79 :: st) :=
  kx_grd fun hb h => by
    have hl := bnd_lt hb
    have h3 : kP C 79 i.toNatClampNeg = some (80 + i.toNatClampNeg) := by
      rcases (show i.toNatClampNeg = 0 ∨ i.toNatClampNeg = 1 ∨ i.toNatClampNeg = 2 ∨ i.toNatClampNeg = 3 by omega) with h | h | h | h <;> rw [h] <;> rfl
    exact ax_aald (c := 17) (w := 4) (r := 79) hX hY (lit_lt (by decide)) (kK_lit (by decide)) (by decide) hs (bnd_in hb) h3 (kk hb (sh_kA hl) h)
theorem kx_aaGk {i : Int32} (hb : bnd i 4 = true) (hX : xAmb G X Y d mc ms) (hY : xpOK Y = true) (hs : xis Y pc xq_aald = some nx) (kk : A → kW G X Y C I cells slots nx lv (.ref (80 + i.toNatClampNeg) :: st)) : A → kW G X Y C I cells slots pc lv (.int i :: .ref 79 :: st) :=
  fun z => kx_aaG (α := Unit) (e := some ()) (b := ()) hX hY hs (fun _ _ _ => kk z) (by unfold grd; rw [if_pos hb])
/-! returns -/
variable {Post : xPost}
theorem kx_iret {v : Int32} (hX : xAmb G X Y d mc ms) (hE : xRet G X Y mc ms (kPo (some (.int v)) C I)) (hY : xpOK Y = true) (hs : xis Y pc xq_iret = some nx) (ht : Y.2.2.2.1 = some .int) (hc : cells ≤ mc ∧ slots ≤ ms) : kW G X Y C I cells slots pc lv [.int v] :=
  ax_iret hX hE hY hs (Or.inl ht) hc ⟨rfl, rfl, rfl, rfl, rfl⟩
theorem kx_zret {v : Int32} (hX : xAmb G X Y d mc ms) (hE : xRet G X Y mc ms (kPo (some (.int v)) C I)) (hY : xpOK Y = true) (hs : xis Y pc xq_iret = some nx) (ht : Y.2.2.2.1 = some .boolean) (hv : v = 0 ∨ v = 1) (hc : cells ≤ mc ∧ slots ≤ ms) : kW G X Y C I cells slots pc lv [.int v] :=
  ax_iret hX hE hY hs (Or.inr ⟨ht, hv⟩) hc ⟨rfl, rfl, rfl, rfl, rfl⟩
theorem kx_vret (hX : xAmb G X Y d mc ms) (hE : xRet G X Y mc ms (kPo none C I)) (hY : xpOK Y = true) (hs : xis Y pc xq_ret = some nx) (ht : Y.2.2.2.1 = none) (hc : cells ≤ mc ∧ slots ≤ ms) : kW G X Y C I cells slots pc lv [] :=
  ax_vret hX hE hY hs ht hc ⟨rfl, rfl, rfl, rfl, rfl⟩
theorem kx_aret {D : String} (hX : xAmb G X Y d mc ms) (hE : xRet G X Y mc ms (kPo (some (.ref q)) C I)) (hY : xpOK Y = true) (hs : xis Y pc xq_aret = some nx) (ht : Y.2.2.2.1 = some (.object D)) (hc : cells ≤ mc ∧ slots ≤ ms) : kW G X Y C I cells slots pc lv [.ref q] :=
  ax_aret hX hE hY hs ht hc ⟨rfl, rfl, rfl, rfl, rfl⟩
/-! contracts and calls -/
variable {as rest : List Value} {v : Option Value} {np idx a : Nat} {cs : List (Int32 × Nat)}
theorem kM.of (hy : plainName Y.1.cls = true) (hw : xwid as ≤ Y.2.2.1) {lv : List Value} (hlv : xargs as Y.2.2.1 = lv)
    (body : ∀ X : xC, xAmb G X Y d mc ms → xRet G X Y mc ms (kPo v C' I') → A → kW G X Y C I 0 0 0 lv []) : A → kM G d Y as C I mc ms v C' I' := by
  intro a
  subst hlv
  exact cM.of hy hw (fun X hX hE => body X hX hE a)
theorem kx_S (hX : xAmb G X Y d mc ms) (hY : xpOK Y = true) (hs : xlook Y.2.2.2.2.1 pc = some (.invokestatic idx, nx, a, cs)) (hl : xLs Y.1.cls idx Y' np) (hc : A → kM G d' Y' as C I mc' ms' v C' I') (hd : d' < d) (hn : as.length = np) (hst : st = as.reverse ++ rest) (hr8 : (rest.map fun v => v.category).sum ≤ 8) (hm : cells + mc' ≤ mc ∧ slots + ms' ≤ ms)
    (kk : A → kW G X Y C' I' (cells + mc') (slots + ms') nx lv (v.toList ++ rest)) : A → kW G X Y C I cells slots pc lv st :=
  fun a => ax_S hX hY hs hl (hc a) hd hn hst hr8 hm (fun _ _ _ _ _ ⟨h1, h2, h3, h4, h5⟩ => by rw [h1, h2, h3, h4, h5]; exact kk a)
theorem kx_SS {x : MethodName} (hX : xAmb G X Y d mc ms) (hY : xpOK Y = true) (hs : xlook Y.2.2.2.2.1 pc = some (.invokestatic idx, nx, a, cs)) (hl : xLsS Y.1.cls idx x Y' np) (hc : A → kM G d' Y' as C I mc' ms' v C' I') (hd : d' < d) (hn : as.length = np) (hst : st = as.reverse ++ rest) (hr8 : (rest.map fun v => v.category).sum ≤ 8) (hm : cells + mc' ≤ mc ∧ slots + ms' ≤ ms)
    (kk : A → kW G X Y C' I' (cells + mc') (slots + ms') nx lv (v.toList ++ rest)) : A → kW G X Y C I cells slots pc lv st :=
  fun a => ax_SS hX hY hs hl (hc a) hd hn hst hr8 hm (fun _ _ _ _ _ ⟨h1, h2, h3, h4, h5⟩ => by rw [h1, h2, h3, h4, h5]; exact kk a)
/-- a method of a known object -/
theorem kx_V (hr : r < 107) (hX : xAmb G X Y d mc ms) (hY : xpOK Y = true) (hs : xlook Y.2.2.2.2.1 pc = some (.invokevirtual idx, nx, a, cs)) (hl : xLv Y.1.cls idx Y' np) (hc13 : (xtab r).1 < 13) (hcl : Y'.1.cls = xcn (xtab r).1) (hc : A → kM G d' Y' (.ref r :: as) C I mc' ms' v C' I') (hd : d' < d) (hn : as.length = np) (hst : st = as.reverse ++ .ref r :: rest) (hr8 : (rest.map fun v => v.category).sum ≤ 8) (hm : cells + mc' ≤ mc ∧ slots + ms' ≤ ms)
    (kk : A → kW G X Y C' I' (cells + mc') (slots + ms') nx lv (v.toList ++ rest)) : A → kW G X Y C I cells slots pc lv st :=
  fun a => ax_V hX hY hs hl (lit_lt hr) (kK_lit hr) hc13 hcl (hc a) hd hn hst hr8 hm (fun _ _ _ _ _ ⟨h1, h2, h3, h4, h5⟩ => by rw [h1, h2, h3, h4, h5]; exact kk a)
/-- a method of a text -/
theorem kx_VT {t : Nat} (hT : isT t) (hX : xAmb G X Y d mc ms) (hY : xpOK Y = true) (hs : xlook Y.2.2.2.2.1 pc = some (.invokevirtual idx, nx, a, cs)) (hl : xLv Y.1.cls idx Y' np) (hcl : Y'.1.cls = xcn 7) (hc : A → kM G d' Y' (.ref t :: as) C I mc' ms' v C' I') (hd : d' < d) (hn : as.length = np) (hst : st = as.reverse ++ .ref t :: rest) (hr8 : (rest.map fun v => v.category).sum ≤ 8) (hm : cells + mc' ≤ mc ∧ slots + ms' ≤ ms)
    (kk : A → kW G X Y C' I' (cells + mc') (slots + ms') nx lv (v.toList ++ rest)) : A → kW G X Y C I cells slots pc lv st :=
  fun a => ax_V hX hY hs hl (lit_lt (isT_lt hT)) (isT_K hT) (by decide) hcl (hc a) hd hn hst hr8 hm (fun _ _ _ _ _ ⟨h1, h2, h3, h4, h5⟩ => by rw [h1, h2, h3, h4, h5]; exact kk a)
/-- a method that a stroke's class selects -/
theorem kx_U {Y0 : MI} {x : MethodName} (hq : gS C q = true) (hX : xAmb G X Y d mc ms) (hY : xpOK Y = true) (hs : xlook Y.2.2.2.2.1 pc = some (.invokevirtual idx, nx, a, cs)) (hl : xLu Y.1.cls idx (xcn (kc C q)) x Y0 Y' np) (hc : A → kM G d' Y' (.ref q :: as) C I mc' ms' v C' I') (hd : d' < d) (hn : as.length = np) (hst : st = as.reverse ++ .ref q :: rest) (hr8 : (rest.map fun v => v.category).sum ≤ 8) (hm : cells + mc' ≤ mc ∧ slots + ms' ≤ ms)
    (kk : A → kW G X Y C' I' (cells + mc') (slots + ms') nx lv (v.toList ++ rest)) : A → kW G X Y C I cells slots pc lv st :=
  fun a => ax_U hX hY hs hl (gS_lt hq) (kK_pair C q) (Nat.lt_trans (gS_k hq) (by decide)) (hc a) hd hn hst hr8 hm (fun _ _ _ _ _ ⟨h1, h2, h3, h4, h5⟩ => by rw [h1, h2, h3, h4, h5]; exact kk a)
theorem kx_SU (hq : gS C q = true) (hX : xAmb G X Y d mc ms) (hY : xpOK Y = true) (hs : xlook Y.2.2.2.2.1 pc = some (.invokespecial idx, nx, a, cs)) (hl : xLsu Y.1.cls idx Y' np) (hc : A → kM G d' Y' (.ref q :: as) C I mc' ms' v C' I') (hd : d' < d) (hn : as.length = np) (hst : st = as.reverse ++ .ref q :: rest) (hr8 : (rest.map fun v => v.category).sum ≤ 8) (hm : cells + mc' ≤ mc ∧ slots + ms' ≤ ms)
    (kk : A → kW G X Y C' I' (cells + mc') (slots + ms') nx lv (v.toList ++ rest)) : A → kW G X Y C I cells slots pc lv st :=
  fun a => ax_SU hX hY hs hl (gS_lt hq) (kK_pair C q) (Nat.lt_trans (gS_k hq) (by decide)) (hc a) hd hn hst hr8 hm (fun _ _ _ _ _ ⟨h1, h2, h3, h4, h5⟩ => by rw [h1, h2, h3, h4, h5]; exact kk a)
theorem kx_SX {x : MethodName} (hq : gS C q = true) (hX : xAmb G X Y d mc ms) (hY : xpOK Y = true) (hs : xlook Y.2.2.2.2.1 pc = some (.invokespecial idx, nx, a, cs)) (hl : xLsx Y.1.cls idx x Y' np) (hc : A → kM G d' Y' (.ref q :: as) C I mc' ms' v C' I') (hd : d' < d) (hn : as.length = np) (hst : st = as.reverse ++ .ref q :: rest) (hr8 : (rest.map fun v => v.category).sum ≤ 8) (hm : cells + mc' ≤ mc ∧ slots + ms' ≤ ms)
    (kk : A → kW G X Y C' I' (cells + mc') (slots + ms') nx lv (v.toList ++ rest)) : A → kW G X Y C I cells slots pc lv st :=
  fun a => ax_SX hX hY hs hl (gS_lt hq) (kK_pair C q) (Nat.lt_trans (gS_k hq) (by decide)) (hc a) hd hn hst hr8 hm (fun _ _ _ _ _ ⟨h1, h2, h3, h4, h5⟩ => by rw [h1, h2, h3, h4, h5]; exact kk a)
theorem kx_I (hq : gS C q = true) (hX : xAmb G X Y d mc ms) (hY : xpOK Y = true) (hs : xlook Y.2.2.2.2.1 pc = some (.invokespecial idx, nx, a, cs)) (hl : xLi Y.1.cls idx Y' np) (hret : Y'.2.2.2.1 = none) (hc : A → kM G d' Y' (.ref q :: as) C I mc' ms' v C' I') (hd : d' < d) (hn : as.length = np) (hst : st = as.reverse ++ .ref q :: rest) (hr8 : (rest.map fun v => v.category).sum ≤ 8) (hm : cells + mc' ≤ mc ∧ slots + ms' ≤ ms)
    (kk : A → kW G X Y C' I' (cells + mc') (slots + ms') nx lv (v.toList ++ rest)) : A → kW G X Y C I cells slots pc lv st :=
  fun a H locs ls hR hlo hlv => ax_I hX hY hs hl hret (Nat.lt_trans (gS_lt hq) hR.2.2.2.1) (hc a) hd hn hst hr8 hm (fun _ _ _ _ _ ⟨h1, h2, h3, h4, h5⟩ => by rw [h1, h2, h3, h4, h5]; exact kk a) H locs ls hR hlo hlv
end KX
