/-! Math.max, min, abs -/
def mmax (x y : Int32) : Int32 := if x < y then y else x
def mmin (x y : Int32) : Int32 := if y < x then y else x
def mabs (x : Int32) : Int32 := if 0 ≤ x then x else 0 - x
theorem xc_max : Cond.code Lib.Math.max.name Lib.Math.max.code 2 (some .int) ∈ xw := xw_at 525 (by decide +kernel)
theorem kx_max {G : xG} {X : xC} {Y : MI} {d mc ms : Nat} {C : HC} {I : HI} {cells slots pc nx idx a : Nat} {lv st : List Value} {A : Prop} {cs : List (Int32 × Nat)} {x y : Int32} (hd1 : 0 < d) (hroom : cells ≤ mc ∧ slots ≤ ms) (hX : xAmb G X Y d mc ms) (hY : xpOK Y = true) (hs : xlook Y.2.2.2.2.1 pc = some (.invokestatic idx, nx, a, cs)) (hl : xLs Y.1.cls idx m_Math_max 2) (hr8 : (st.map fun v => v.category).sum ≤ 8)
    (kk : A → kW G X Y C I cells slots nx lv (.int (mmax x y) :: st)) : A → kW G X Y C I cells slots pc lv (.int y :: .int x :: st) := by
  intro z
  obtain ⟨hd, -, hlen, -⟩ := xdec hY hs
  obtain rfl : nx = pc + 3 := by simpa [xlen] using hlen
  rw [Nat.add_sub_cancel_left] at hd
  intro H locs ls hR hlo hlv
  have hts := hX.2.2.2.2.1
  have hf := hX.2.2.2.2.2.2.1
  have hlc := hX.2.2.2.2.2.2.2.1
  refine va_mmax hX.1 hX.2.1 (hX.2.2.1.trans hlv.1.symm) hX.2.2.2.1 (hts _ hl.1.1) (hts _ hl.2) (hts _ hl.1.2.1) (hts _ xc_max) (by omega) ?_ (Nat.le_trans hroom.1 hX.2.2.2.2.2.2.2.2.1) (Nat.le_trans hroom.2 hX.2.2.2.2.2.2.2.2.2.1) hd (kk z H locs ls hR hlo hlv)
  rw [xcats]
  omega
theorem xc_min : Cond.code Lib.Math.min.name Lib.Math.min.code 2 (some .int) ∈ xw := xw_at 563 (by decide +kernel)
theorem kx_min {G : xG} {X : xC} {Y : MI} {d mc ms : Nat} {C : HC} {I : HI} {cells slots pc nx idx a : Nat} {lv st : List Value} {A : Prop} {cs : List (Int32 × Nat)} {x y : Int32} (hd1 : 0 < d) (hroom : cells ≤ mc ∧ slots ≤ ms) (hX : xAmb G X Y d mc ms) (hY : xpOK Y = true) (hs : xlook Y.2.2.2.2.1 pc = some (.invokestatic idx, nx, a, cs)) (hl : xLs Y.1.cls idx m_Math_min 2) (hr8 : (st.map fun v => v.category).sum ≤ 8)
    (kk : A → kW G X Y C I cells slots nx lv (.int (mmin x y) :: st)) : A → kW G X Y C I cells slots pc lv (.int y :: .int x :: st) := by
  intro z
  obtain ⟨hd, -, hlen, -⟩ := xdec hY hs
  obtain rfl : nx = pc + 3 := by simpa [xlen] using hlen
  rw [Nat.add_sub_cancel_left] at hd
  intro H locs ls hR hlo hlv
  have hts := hX.2.2.2.2.1
  have hf := hX.2.2.2.2.2.2.1
  have hlc := hX.2.2.2.2.2.2.2.1
  refine va_mmin hX.1 hX.2.1 (hX.2.2.1.trans hlv.1.symm) hX.2.2.2.1 (hts _ hl.1.1) (hts _ hl.2) (hts _ hl.1.2.1) (hts _ xc_min) (by omega) ?_ (Nat.le_trans hroom.1 hX.2.2.2.2.2.2.2.2.1) (Nat.le_trans hroom.2 hX.2.2.2.2.2.2.2.2.2.1) hd (kk z H locs ls hR hlo hlv)
  rw [xcats]
  omega
theorem xc_abs : Cond.code Lib.Math.abs.name Lib.Math.abs.code 1 (some .int) ∈ xw := xw_at 990 (by decide +kernel)
theorem kx_abs {G : xG} {X : xC} {Y : MI} {d mc ms : Nat} {C : HC} {I : HI} {cells slots pc nx idx a : Nat} {lv st : List Value} {A : Prop} {cs : List (Int32 × Nat)} {x : Int32} (hd1 : 0 < d) (hroom : cells ≤ mc ∧ slots ≤ ms) (hX : xAmb G X Y d mc ms) (hY : xpOK Y = true) (hs : xlook Y.2.2.2.2.1 pc = some (.invokestatic idx, nx, a, cs)) (hl : xLs Y.1.cls idx m_Math_abs 1) (hr8 : (st.map fun v => v.category).sum ≤ 8)
    (kk : A → kW G X Y C I cells slots nx lv (.int (mabs x) :: st)) : A → kW G X Y C I cells slots pc lv (.int x :: st) := by
  intro z
  obtain ⟨hd, -, hlen, -⟩ := xdec hY hs
  obtain rfl : nx = pc + 3 := by simpa [xlen] using hlen
  rw [Nat.add_sub_cancel_left] at hd
  intro H locs ls hR hlo hlv
  have hts := hX.2.2.2.2.1
  have hf := hX.2.2.2.2.2.2.1
  have hlc := hX.2.2.2.2.2.2.2.1
  refine va_mabs hX.1 hX.2.1 (hX.2.2.1.trans hlv.1.symm) hX.2.2.2.1 (hts _ hl.1.1) (hts _ hl.2) (hts _ hl.1.2.1) (hts _ xc_abs) (by omega) ?_ (Nat.le_trans hroom.1 hX.2.2.2.2.2.2.2.2.1) (Nat.le_trans hroom.2 hX.2.2.2.2.2.2.2.2.2.1) hd (kk z H locs ls hR hlo hlv)
  rw [xcats]
  omega
