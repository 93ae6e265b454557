def M_H_next (C : HC) (I : HI) (x1 : Int32) : Option (Int32 × HI) := if (M_Wall_within x1 (1 : Int32)) = (0 : Int32) then (Option.bind (M_H_error I (1 : Int32)) fun p2 => some (p2.1, p2.2)) else (Option.bind (M_Spans_load C I) fun p3 => if (p3 1 1) = (0 : Int32) then (Option.bind (M_H_error p3 (2 : Int32)) fun p5 => some (p5.1, p5.2)) else (Option.bind (M_Spans_findNext p3) fun p6 => if p6.1 = (0 : Int32) then (Option.bind (M_H_error p6.2 (2 : Int32)) fun p8 => some (p8.1, p8.2)) else (if x1 = (0 : Int32) then (some ((p6.2 72 2), p6.2)) else (some ((p6.2 72 3), p6.2)))))
theorem s_H_next {G : xG} {d : Nat} (hd : 6 ≤ d) (C : HC) (I : HI) (x1 : Int32)  (r : Int32 × HI) : M_H_next C I x1 = some r → kM G d m_H_next [.ref 0, .int x1] C I 0 0 (some (.int r.1)) C r.2 := by
  unfold M_H_next
  refine kM.of (by decide +kernel) (Nat.le_of_ble_eq_true rfl) (lv := [.ref 0, .int x1]) rfl (fun X hX hE => ?_)
  refine kx_go 2 (pc' := 2) (lv' := [.ref 0, .int x1]) (st' := [.int (1 : Int32), .int x1]) hX ok_H_next rfl ?_
  refine kx_S (as := [.int x1, .int (1 : Int32)]) hX ok_H_next (nx := 5) rfl l_H_56 (fun _ => s_Wall_within (G := G) (d := 0) (Nat.le_refl _) C I x1 (1 : Int32) _ rfl) (by omega) rfl (rest := []) rfl (Nat.le_of_ble_eq_true rfl) ⟨Nat.le_of_ble_eq_true rfl, Nat.le_of_ble_eq_true rfl⟩ ?_
  show _ → kW G X m_H_next C I 0 0 5 [.ref 0, .int x1] [.int (M_Wall_within x1 (1 : Int32))]
  refine kx_go 1 (pc' := if (M_Wall_within x1 (1 : Int32)) = (0 : Int32) then 8 else 14) (lv' := [.ref 0, .int x1]) (st' := []) hX ok_H_next rfl ?_
  refine kx_ite (fun c1 => ?_) (fun c1 => ?_)
  · refine kx_go 2 (pc' := 10) (lv' := [.ref 0, .int x1]) (st' := [.int (1 : Int32), .ref 0]) hX ok_H_next rfl ?_
    refine kx_bind (fun p2 hp2 => ?_)
    refine kx_V (r := 0) (as := [.int (1 : Int32)]) (by decide) hX ok_H_next (nx := 13) rfl l_H_60 (by decide) rfl (fun _ => s_H_error (G := G) (d := 0) (Nat.le_refl _) C I (1 : Int32) p2 hp2) (by omega) rfl (rest := []) rfl (Nat.le_of_ble_eq_true rfl) ⟨Nat.le_of_ble_eq_true rfl, Nat.le_of_ble_eq_true rfl⟩ ?_
    show _ → kW G X m_H_next C p2.2 0 0 13 [.ref 0, .int x1] [.int p2.1]
    intro h; have h := Option.some.inj h; subst h
    exact kx_iret hX hE ok_H_next (nx := 14) rfl rfl ⟨Nat.le_of_ble_eq_true rfl, Nat.le_of_ble_eq_true rfl⟩
  · refine kx_go 1 (pc' := 15) (lv' := [.ref 0, .int x1]) (st' := [.ref 0]) hX ok_H_next rfl ?_
    refine kx_getp hX ok_H_next rfl (q := 72) (nx := 18) rfl ?_
    refine kx_go 1 (pc' := 19) (lv' := [.ref 0, .int x1]) (st' := [.ref 0, .ref 72]) hX ok_H_next rfl ?_
    refine kx_getp hX ok_H_next rfl (q := 1) (nx := 22) rfl ?_
    refine kx_bind (fun p3 hp3 => ?_)
    refine kx_V (r := 72) (as := [.ref 1]) (by decide) hX ok_H_next (nx := 25) rfl l_H_176 (by decide) rfl (fun _ => s_Spans_load (G := G) (d := 5) (Nat.le_refl _) C I  p3 hp3) (by omega) rfl (rest := []) rfl (Nat.le_of_ble_eq_true rfl) ⟨Nat.le_of_ble_eq_true rfl, Nat.le_of_ble_eq_true rfl⟩ ?_
    show _ → kW G X m_H_next C p3 0 0 25 [.ref 0, .int x1] []
    refine kx_go 1 (pc' := 26) (lv' := [.ref 0, .int x1]) (st' := [.ref 0]) hX ok_H_next rfl ?_
    refine kx_getp hX ok_H_next rfl (q := 1) (nx := 29) rfl ?_
    refine kx_geti hX ok_H_next rfl (k := 1) (nx := 32) rfl ?_
    refine kx_go 1 (pc' := if (p3 1 1) = (0 : Int32) then 49 else 35) (lv' := [.ref 0, .int x1]) (st' := []) hX ok_H_next rfl ?_
    refine kx_ite (fun c4 => ?_) (fun c4 => ?_)
    · refine kx_go 2 (pc' := 51) (lv' := [.ref 0, .int x1]) (st' := [.int (2 : Int32), .ref 0]) hX ok_H_next rfl ?_
      refine kx_bind (fun p5 hp5 => ?_)
      refine kx_V (r := 0) (as := [.int (2 : Int32)]) (by decide) hX ok_H_next (nx := 54) rfl l_H_60 (by decide) rfl (fun _ => s_H_error (G := G) (d := 0) (Nat.le_refl _) C p3 (2 : Int32) p5 hp5) (by omega) rfl (rest := []) rfl (Nat.le_of_ble_eq_true rfl) ⟨Nat.le_of_ble_eq_true rfl, Nat.le_of_ble_eq_true rfl⟩ ?_
      show _ → kW G X m_H_next C p5.2 0 0 54 [.ref 0, .int x1] [.int p5.1]
      intro h; have h := Option.some.inj h; subst h
      exact kx_iret hX hE ok_H_next (nx := 55) rfl rfl ⟨Nat.le_of_ble_eq_true rfl, Nat.le_of_ble_eq_true rfl⟩
    · refine kx_go 1 (pc' := 36) (lv' := [.ref 0, .int x1]) (st' := [.ref 0]) hX ok_H_next rfl ?_
      refine kx_getp hX ok_H_next rfl (q := 72) (nx := 39) rfl ?_
      refine kx_go 1 (pc' := 40) (lv' := [.ref 0, .int x1]) (st' := [.ref 0, .ref 72]) hX ok_H_next rfl ?_
      refine kx_getp hX ok_H_next rfl (q := 1) (nx := 43) rfl ?_
      refine kx_bind (fun p6 hp6 => ?_)
      refine kx_V (r := 72) (as := [.ref 1]) (by decide) hX ok_H_next (nx := 46) rfl l_H_192 (by decide) rfl (fun _ => s_Spans_findNext (G := G) (d := 4) (Nat.le_refl _) C p3  p6 hp6) (by omega) rfl (rest := []) rfl (Nat.le_of_ble_eq_true rfl) ⟨Nat.le_of_ble_eq_true rfl, Nat.le_of_ble_eq_true rfl⟩ ?_
      show _ → kW G X m_H_next C p6.2 0 0 46 [.ref 0, .int x1] [.int p6.1]
      refine kx_go 1 (pc' := if p6.1 = (0 : Int32) then 49 else 55) (lv' := [.ref 0, .int x1]) (st' := []) hX ok_H_next rfl ?_
      refine kx_ite (fun c7 => ?_) (fun c7 => ?_)
      · refine kx_go 2 (pc' := 51) (lv' := [.ref 0, .int x1]) (st' := [.int (2 : Int32), .ref 0]) hX ok_H_next rfl ?_
        refine kx_bind (fun p8 hp8 => ?_)
        refine kx_V (r := 0) (as := [.int (2 : Int32)]) (by decide) hX ok_H_next (nx := 54) rfl l_H_60 (by decide) rfl (fun _ => s_H_error (G := G) (d := 0) (Nat.le_refl _) C p6.2 (2 : Int32) p8 hp8) (by omega) rfl (rest := []) rfl (Nat.le_of_ble_eq_true rfl) ⟨Nat.le_of_ble_eq_true rfl, Nat.le_of_ble_eq_true rfl⟩ ?_
        show _ → kW G X m_H_next C p8.2 0 0 54 [.ref 0, .int x1] [.int p8.1]
        intro h; have h := Option.some.inj h; subst h
        exact kx_iret hX hE ok_H_next (nx := 55) rfl rfl ⟨Nat.le_of_ble_eq_true rfl, Nat.le_of_ble_eq_true rfl⟩
      · refine kx_go 2 (pc' := if x1 = (0 : Int32) then 59 else 69) (lv' := [.ref 0, .int x1]) (st' := []) hX ok_H_next rfl ?_
        refine kx_ite (fun c9 => ?_) (fun c9 => ?_)
        · refine kx_go 1 (pc' := 60) (lv' := [.ref 0, .int x1]) (st' := [.ref 0]) hX ok_H_next rfl ?_
          refine kx_getp hX ok_H_next rfl (q := 72) (nx := 63) rfl ?_
          refine kx_geti hX ok_H_next rfl (k := 2) (nx := 66) rfl ?_
          refine kx_go 1 (pc' := 76) (lv' := [.ref 0, .int x1]) (st' := [.int (p6.2 72 2)]) hX ok_H_next rfl ?_
          intro h; have h := Option.some.inj h; subst h
          exact kx_iret hX hE ok_H_next (nx := 77) rfl rfl ⟨Nat.le_of_ble_eq_true rfl, Nat.le_of_ble_eq_true rfl⟩
        · refine kx_go 1 (pc' := 70) (lv' := [.ref 0, .int x1]) (st' := [.ref 0]) hX ok_H_next rfl ?_
          refine kx_getp hX ok_H_next rfl (q := 72) (nx := 73) rfl ?_
          refine kx_geti hX ok_H_next rfl (k := 3) (nx := 76) rfl ?_
          intro h; have h := Option.some.inj h; subst h
          exact kx_iret hX hE ok_H_next (nx := 77) rfl rfl ⟨Nat.le_of_ble_eq_true rfl, Nat.le_of_ble_eq_true rfl⟩
def M_Wall_far (x0 : Int32) (x1 : Int32) : Int32 := ((mabs ((x0 / (6 : Int32)) - (x1 / (6 : Int32)))) + (mabs ((x0 - x0 / (6 : Int32) * (6 : Int32)) - (x1 - x1 / (6 : Int32) * (6 : Int32)))))
theorem s_Wall_far {G : xG} {d : Nat} (hd : 1 ≤ d) (C : HC) (I : HI) (x0 : Int32) (x1 : Int32)  (r : Int32) : M_Wall_far x0 x1 = r → kM G d m_Wall_far [.int x0, .int x1] C I 0 0 (some (.int r)) C I := by
  unfold M_Wall_far
  refine kM.of (by decide +kernel) (Nat.le_of_ble_eq_true rfl) (lv := [.int x0, .int x1]) rfl (fun X hX hE => ?_)
  refine kx_go 2 (pc' := 3) (lv' := [.int x0, .int x1]) (st' := [.int (6 : Int32), .int x0]) hX ok_Wall_far rfl ?_
  refine kx_idivc hX ok_Wall_far (nx := 4) rfl (by decide) ?_
  refine kx_go 2 (pc' := 7) (lv' := [.int x0, .int x1]) (st' := [.int (6 : Int32), .int x1, .int (x0 / (6 : Int32))]) hX ok_Wall_far rfl ?_
  refine kx_idivc hX ok_Wall_far (nx := 8) rfl (by decide) ?_
  refine kx_go 1 (pc' := 9) (lv' := [.int x0, .int x1]) (st' := [.int ((x0 / (6 : Int32)) - (x1 / (6 : Int32)))]) hX ok_Wall_far rfl ?_
  refine kx_abs (d := d) (by omega) ⟨Nat.le_of_ble_eq_true rfl, Nat.le_of_ble_eq_true rfl⟩ hX ok_Wall_far (nx := 12) rfl l_Wall_91 (Nat.le_of_ble_eq_true rfl) ?_
  refine kx_go 2 (pc' := 15) (lv' := [.int x0, .int x1]) (st' := [.int (6 : Int32), .int x0, .int (mabs ((x0 / (6 : Int32)) - (x1 / (6 : Int32))))]) hX ok_Wall_far rfl ?_
  refine kx_iremc hX ok_Wall_far (nx := 16) rfl (by decide) ?_
  refine kx_go 2 (pc' := 19) (lv' := [.int x0, .int x1]) (st' := [.int (6 : Int32), .int x1, .int (x0 - x0 / (6 : Int32) * (6 : Int32)), .int (mabs ((x0 / (6 : Int32)) - (x1 / (6 : Int32))))]) hX ok_Wall_far rfl ?_
  refine kx_iremc hX ok_Wall_far (nx := 20) rfl (by decide) ?_
  refine kx_go 1 (pc' := 21) (lv' := [.int x0, .int x1]) (st' := [.int ((x0 - x0 / (6 : Int32) * (6 : Int32)) - (x1 - x1 / (6 : Int32) * (6 : Int32))), .int (mabs ((x0 / (6 : Int32)) - (x1 / (6 : Int32))))]) hX ok_Wall_far rfl ?_
  refine kx_abs (d := d) (by omega) ⟨Nat.le_of_ble_eq_true rfl, Nat.le_of_ble_eq_true rfl⟩ hX ok_Wall_far (nx := 24) rfl l_Wall_91 (Nat.le_of_ble_eq_true rfl) ?_
  refine kx_go 1 (pc' := 25) (lv' := [.int x0, .int x1]) (st' := [.int ((mabs ((x0 / (6 : Int32)) - (x1 / (6 : Int32)))) + (mabs ((x0 - x0 / (6 : Int32) * (6 : Int32)) - (x1 - x1 / (6 : Int32) * (6 : Int32)))))]) hX ok_Wall_far rfl ?_
  rintro rfl
  exact kx_iret hX hE ok_Wall_far (nx := 26) rfl rfl ⟨Nat.le_of_ble_eq_true rfl, Nat.le_of_ble_eq_true rfl⟩
def M_Stroke_gap (q0 : Nat) : Int32 := (1 : Int32)
theorem s_Stroke_gap {G : xG} {d : Nat} (hd : 0 ≤ d) (C : HC) (I : HI) (q0 : Nat) (hq0 : gS C q0 = true) (r : Int32) : M_Stroke_gap q0 = r → kM G d m_Stroke_gap [.ref q0] C I 0 0 (some (.int r)) C I := by
  unfold M_Stroke_gap
  refine kM.of (by decide +kernel) (Nat.le_of_ble_eq_true rfl) (lv := [.ref q0]) rfl (fun X hX hE => ?_)
  refine kx_go 1 (pc' := 1) (lv' := [.ref q0]) (st' := [.int (1 : Int32)]) hX ok_Stroke_gap rfl ?_
  rintro rfl
  exact kx_iret hX hE ok_Stroke_gap (nx := 2) rfl rfl ⟨Nat.le_of_ble_eq_true rfl, Nat.le_of_ble_eq_true rfl⟩
def M_Red_gap (I : HI) (q0 : Nat) : Int32 := ((M_Stroke_gap q0) + ((I q0 1) / (3 : Int32)))
theorem s_Red_gap {G : xG} {d : Nat} (hd : 1 ≤ d) (C : HC) (I : HI) (q0 : Nat) (hq0 : gS C q0 = true) (r : Int32) : M_Red_gap I q0 = r → kM G d m_Red_gap [.ref q0] C I 0 0 (some (.int r)) C I := by
  unfold M_Red_gap
  refine kM.of (by decide +kernel) (Nat.le_of_ble_eq_true rfl) (lv := [.ref q0]) rfl (fun X hX hE => ?_)
  refine kx_go 1 (pc' := 1) (lv' := [.ref q0]) (st' := [.ref q0]) hX ok_Red_gap rfl ?_
  refine kx_SU (as := []) hq0 hX ok_Red_gap (nx := 4) rfl l_Red_21 (fun _ => s_Stroke_gap (G := G) (d := 0) (Nat.le_refl _) C I q0 hq0 _ rfl) (by omega) rfl (rest := []) rfl (Nat.le_of_ble_eq_true rfl) ⟨Nat.le_of_ble_eq_true rfl, Nat.le_of_ble_eq_true rfl⟩ ?_
  show _ → kW G X m_Red_gap C I 0 0 4 [.ref q0] [.int (M_Stroke_gap q0)]
  refine kx_go 1 (pc' := 5) (lv' := [.ref q0]) (st' := [.ref q0, .int (M_Stroke_gap q0)]) hX ok_Red_gap rfl ?_
  refine kx_gets hq0 hX ok_Red_gap rfl (k := 1) (nx := 8) rfl ?_
  refine kx_go 1 (pc' := 9) (lv' := [.ref q0]) (st' := [.int (3 : Int32), .int (I q0 1), .int (M_Stroke_gap q0)]) hX ok_Red_gap rfl ?_
  refine kx_idivc hX ok_Red_gap (nx := 10) rfl (by decide) ?_
  refine kx_go 1 (pc' := 11) (lv' := [.ref q0]) (st' := [.int ((M_Stroke_gap q0) + ((I q0 1) / (3 : Int32)))]) hX ok_Red_gap rfl ?_
  rintro rfl
  exact kx_iret hX hE ok_Red_gap (nx := 12) rfl rfl ⟨Nat.le_of_ble_eq_true rfl, Nat.le_of_ble_eq_true rfl⟩
def M_Scratch_gap (q0 : Nat) : Int32 := (2 : Int32)
theorem s_Scratch_gap {G : xG} {d : Nat} (hd : 0 ≤ d) (C : HC) (I : HI) (q0 : Nat) (hq0 : gS C q0 = true) (r : Int32) : M_Scratch_gap q0 = r → kM G d m_Scratch_gap [.ref q0] C I 0 0 (some (.int r)) C I := by
  unfold M_Scratch_gap
  refine kM.of (by decide +kernel) (Nat.le_of_ble_eq_true rfl) (lv := [.ref q0]) rfl (fun X hX hE => ?_)
  refine kx_go 1 (pc' := 1) (lv' := [.ref q0]) (st' := [.int (2 : Int32)]) hX ok_Scratch_gap rfl ?_
  rintro rfl
  exact kx_iret hX hE ok_Scratch_gap (nx := 2) rfl rfl ⟨Nat.le_of_ble_eq_true rfl, Nat.le_of_ble_eq_true rfl⟩
def M_Child_gap (q0 : Nat) : Int32 := (0 : Int32)
theorem s_Child_gap {G : xG} {d : Nat} (hd : 0 ≤ d) (C : HC) (I : HI) (q0 : Nat) (hq0 : gS C q0 = true) (r : Int32) : M_Child_gap q0 = r → kM G d m_Child_gap [.ref q0] C I 0 0 (some (.int r)) C I := by
  unfold M_Child_gap
  refine kM.of (by decide +kernel) (Nat.le_of_ble_eq_true rfl) (lv := [.ref q0]) rfl (fun X hX hE => ?_)
  refine kx_go 1 (pc' := 1) (lv' := [.ref q0]) (st' := [.int (0 : Int32)]) hX ok_Child_gap rfl ?_
  rintro rfl
  exact kx_iret hX hE ok_Child_gap (nx := 2) rfl rfl ⟨Nat.le_of_ble_eq_true rfl, Nat.le_of_ble_eq_true rfl⟩
def M_Soot_gap (q0 : Nat) : Int32 := ((M_Stroke_gap q0) + (1 : Int32))
theorem s_Soot_gap {G : xG} {d : Nat} (hd : 1 ≤ d) (C : HC) (I : HI) (q0 : Nat) (hq0 : gS C q0 = true) (r : Int32) : M_Soot_gap q0 = r → kM G d m_Soot_gap [.ref q0] C I 0 0 (some (.int r)) C I := by
  unfold M_Soot_gap
  refine kM.of (by decide +kernel) (Nat.le_of_ble_eq_true rfl) (lv := [.ref q0]) rfl (fun X hX hE => ?_)
  refine kx_go 1 (pc' := 1) (lv' := [.ref q0]) (st' := [.ref q0]) hX ok_Soot_gap rfl ?_
  refine kx_SX (as := []) hq0 hX ok_Soot_gap (nx := 4) rfl l_Soot_24 (fun _ => s_Stroke_gap (G := G) (d := 0) (Nat.le_refl _) C I q0 hq0 _ rfl) (by omega) rfl (rest := []) rfl (Nat.le_of_ble_eq_true rfl) ⟨Nat.le_of_ble_eq_true rfl, Nat.le_of_ble_eq_true rfl⟩ ?_
  show _ → kW G X m_Soot_gap C I 0 0 4 [.ref q0] [.int (M_Stroke_gap q0)]
  refine kx_go 2 (pc' := 6) (lv' := [.ref q0]) (st' := [.int ((M_Stroke_gap q0) + (1 : Int32))]) hX ok_Soot_gap rfl ?_
  rintro rfl
  exact kx_iret hX hE ok_Soot_gap (nx := 7) rfl rfl ⟨Nat.le_of_ble_eq_true rfl, Nat.le_of_ble_eq_true rfl⟩
def M_Forged_gap (I : HI) (q0 : Nat) : Int32 := ((M_Scratch_gap q0) + (I q0 1))
theorem s_Forged_gap {G : xG} {d : Nat} (hd : 1 ≤ d) (C : HC) (I : HI) (q0 : Nat) (hq0 : gS C q0 = true) (r : Int32) : M_Forged_gap I q0 = r → kM G d m_Forged_gap [.ref q0] C I 0 0 (some (.int r)) C I := by
  unfold M_Forged_gap
  refine kM.of (by decide +kernel) (Nat.le_of_ble_eq_true rfl) (lv := [.ref q0]) rfl (fun X hX hE => ?_)
  refine kx_go 1 (pc' := 1) (lv' := [.ref q0]) (st' := [.ref q0]) hX ok_Forged_gap rfl ?_
  refine kx_SU (as := []) hq0 hX ok_Forged_gap (nx := 4) rfl l_Forged_23 (fun _ => s_Scratch_gap (G := G) (d := 0) (Nat.le_refl _) C I q0 hq0 _ rfl) (by omega) rfl (rest := []) rfl (Nat.le_of_ble_eq_true rfl) ⟨Nat.le_of_ble_eq_true rfl, Nat.le_of_ble_eq_true rfl⟩ ?_
  show _ → kW G X m_Forged_gap C I 0 0 4 [.ref q0] [.int (M_Scratch_gap q0)]
  refine kx_go 1 (pc' := 5) (lv' := [.ref q0]) (st' := [.ref q0, .int (M_Scratch_gap q0)]) hX ok_Forged_gap rfl ?_
  refine kx_gets hq0 hX ok_Forged_gap rfl (k := 1) (nx := 8) rfl ?_
  refine kx_go 1 (pc' := 9) (lv' := [.ref q0]) (st' := [.int ((M_Scratch_gap q0) + (I q0 1))]) hX ok_Forged_gap rfl ?_
  rintro rfl
  exact kx_iret hX hE ok_Forged_gap (nx := 10) rfl rfl ⟨Nat.le_of_ble_eq_true rfl, Nat.le_of_ble_eq_true rfl⟩
def M_Vgap (C : HC) (I : HI) (q0 : Nat) : Int32 := if kc C q0 = 0 then M_Stroke_gap q0 else if kc C q0 = 1 then M_Red_gap I q0 else if kc C q0 = 2 then M_Stroke_gap q0 else if kc C q0 = 3 then M_Scratch_gap q0 else if kc C q0 = 4 then M_Child_gap q0 else if kc C q0 = 5 then M_Soot_gap q0 else M_Forged_gap I q0
theorem s_Vgap {G : xG} {d : Nat} (hd : 1 ≤ d) (C : HC) (I : HI) (q0 : Nat) (hq0 : gS C q0 = true) (r : Int32) : M_Vgap C I q0 = r → kM G d (sel_gap (kc C q0)) [.ref q0] C I 0 0 (some (.int r)) C I := by
  unfold M_Vgap
  refine kx_if (fun h0 => ?_) (fun h0 => ?_)
  · rw [show sel_gap (kc C q0) = m_Stroke_gap by rw [h0]; rfl]
    exact s_Stroke_gap (by omega) C I q0 hq0 _
  ·
    refine kx_if (fun h1 => ?_) (fun h1 => ?_)
    · rw [show sel_gap (kc C q0) = m_Red_gap by rw [h1]; rfl]
      exact s_Red_gap (by omega) C I q0 hq0 _
    ·
      refine kx_if (fun h2 => ?_) (fun h2 => ?_)
      · rw [show sel_gap (kc C q0) = m_Stroke_gap by rw [h2]; rfl]
        exact s_Stroke_gap (by omega) C I q0 hq0 _
      ·
        refine kx_if (fun h3 => ?_) (fun h3 => ?_)
        · rw [show sel_gap (kc C q0) = m_Scratch_gap by rw [h3]; rfl]
          exact s_Scratch_gap (by omega) C I q0 hq0 _
        ·
          refine kx_if (fun h4 => ?_) (fun h4 => ?_)
          · rw [show sel_gap (kc C q0) = m_Child_gap by rw [h4]; rfl]
            exact s_Child_gap (by omega) C I q0 hq0 _
          ·
            refine kx_if (fun h5 => ?_) (fun h5 => ?_)
            · rw [show sel_gap (kc C q0) = m_Soot_gap by rw [h5]; rfl]
              exact s_Soot_gap (by omega) C I q0 hq0 _
            ·
              have h6 : kc C q0 = 6 := by have := gS_k hq0; omega
              rw [show sel_gap (kc C q0) = m_Forged_gap by rw [h6]; rfl]
              exact s_Forged_gap (by omega) C I q0 hq0 _
def M_Wall_twoJoin (C : HC) (I : HI) (x1 : Int32) (x2 : Int32) : Option (Int32) := grd (bnd x1 8 && gS C (hT C x1.toNatClampNeg)) (grd (bnd x2 8 && gS C (hT C x2.toNatClampNeg)) (if (M_Vstuff C (hT C x1.toNatClampNeg)) = (M_Vstuff C (hT C x2.toNatClampNeg)) then (if (9 : Int32) < (mabs ((I (hT C x1.toNatClampNeg) 3) - (I (hT C x2.toNatClampNeg) 3))) then (some (0 : Int32)) else (if ((M_Vgap C I (hT C x1.toNatClampNeg)) + (M_Vgap C I (hT C x2.toNatClampNeg))) < (M_Wall_far (I (hT C x1.toNatClampNeg) 2) (I (hT C x2.toNatClampNeg) 2)) then (some (0 : Int32)) else (some (1 : Int32)))) else (some (0 : Int32))))
theorem s_Wall_twoJoin {G : xG} {d : Nat} (hd : 2 ≤ d) (C : HC) (I : HI) (x1 : Int32) (x2 : Int32)  (r : Int32) : M_Wall_twoJoin C I x1 x2 = some r → kM G d m_Wall_twoJoin [.ref 1, .int x1, .int x2] C I 0 0 (some (.int r)) C I := by
  unfold M_Wall_twoJoin
  refine kM.of (by decide +kernel) (Nat.le_of_ble_eq_true rfl) (lv := [.ref 1, .int x1, .int x2, .null, .null]) rfl (fun X hX hE => ?_)
  refine kx_go 1 (pc' := 1) (lv' := [.ref 1, .int x1, .int x2, .null, .null]) (st' := [.ref 1]) hX ok_Wall_twoJoin rfl ?_
  refine kx_getp hX ok_Wall_twoJoin rfl (q := 2) (nx := 4) rfl ?_
  refine kx_go 1 (pc' := 5) (lv' := [.ref 1, .int x1, .int x2, .null, .null]) (st' := [.int x1, .ref 2]) hX ok_Wall_twoJoin rfl ?_
  refine kx_aaT hX ok_Wall_twoJoin (nx := 6) rfl (fun bhq1 hq1 => ?_)
  refine kx_go 2 (pc' := 8) (lv' := [.ref 1, .int x1, .int x2, .ref (hT C x1.toNatClampNeg), .null]) (st' := [.ref 1]) hX ok_Wall_twoJoin rfl ?_
  refine kx_getp hX ok_Wall_twoJoin rfl (q := 2) (nx := 11) rfl ?_
  refine kx_go 1 (pc' := 12) (lv' := [.ref 1, .int x1, .int x2, .ref (hT C x1.toNatClampNeg), .null]) (st' := [.int x2, .ref 2]) hX ok_Wall_twoJoin rfl ?_
  refine kx_aaT hX ok_Wall_twoJoin (nx := 13) rfl (fun bhq2 hq2 => ?_)
  refine kx_go 2 (pc' := 16) (lv' := [.ref 1, .int x1, .int x2, .ref (hT C x1.toNatClampNeg), .ref (hT C x2.toNatClampNeg)]) (st' := [.ref (hT C x1.toNatClampNeg)]) hX ok_Wall_twoJoin rfl ?_
  refine kx_U (as := []) hq1 hX ok_Wall_twoJoin (nx := 19) rfl (l_Wall_153 (gS_k hq1)) (fun _ => s_Vstuff (G := G) (d := 0) (Nat.le_refl _) C I (hT C x1.toNatClampNeg) hq1 _ rfl) (by omega) rfl (rest := []) rfl (Nat.le_of_ble_eq_true rfl) ⟨Nat.le_of_ble_eq_true rfl, Nat.le_of_ble_eq_true rfl⟩ ?_
  show _ → kW G X m_Wall_twoJoin C I 0 0 19 [.ref 1, .int x1, .int x2, .ref (hT C x1.toNatClampNeg), .ref (hT C x2.toNatClampNeg)] [.int (M_Vstuff C (hT C x1.toNatClampNeg))]
  refine kx_go 1 (pc' := 21) (lv' := [.ref 1, .int x1, .int x2, .ref (hT C x1.toNatClampNeg), .ref (hT C x2.toNatClampNeg)]) (st' := [.ref (hT C x2.toNatClampNeg), .int (M_Vstuff C (hT C x1.toNatClampNeg))]) hX ok_Wall_twoJoin rfl ?_
  refine kx_U (as := []) hq2 hX ok_Wall_twoJoin (nx := 24) rfl (l_Wall_153 (gS_k hq2)) (fun _ => s_Vstuff (G := G) (d := 0) (Nat.le_refl _) C I (hT C x2.toNatClampNeg) hq2 _ rfl) (by omega) rfl (rest := [.int (M_Vstuff C (hT C x1.toNatClampNeg))]) rfl (Nat.le_of_ble_eq_true rfl) ⟨Nat.le_of_ble_eq_true rfl, Nat.le_of_ble_eq_true rfl⟩ ?_
  show _ → kW G X m_Wall_twoJoin C I 0 0 24 [.ref 1, .int x1, .int x2, .ref (hT C x1.toNatClampNeg), .ref (hT C x2.toNatClampNeg)] [.int (M_Vstuff C (hT C x2.toNatClampNeg)), .int (M_Vstuff C (hT C x1.toNatClampNeg))]
  refine kx_go 1 (pc' := if (M_Vstuff C (hT C x1.toNatClampNeg)) = (M_Vstuff C (hT C x2.toNatClampNeg)) then 27 else 74) (lv' := [.ref 1, .int x1, .int x2, .ref (hT C x1.toNatClampNeg), .ref (hT C x2.toNatClampNeg)]) (st' := []) hX ok_Wall_twoJoin rfl ?_
  refine kx_ite (fun c3 => ?_) (fun c3 => ?_)
  · refine kx_go 1 (pc' := 28) (lv' := [.ref 1, .int x1, .int x2, .ref (hT C x1.toNatClampNeg), .ref (hT C x2.toNatClampNeg)]) (st' := [.ref (hT C x1.toNatClampNeg)]) hX ok_Wall_twoJoin rfl ?_
    refine kx_gets hq1 hX ok_Wall_twoJoin rfl (k := 3) (nx := 31) rfl ?_
    refine kx_go 1 (pc' := 33) (lv' := [.ref 1, .int x1, .int x2, .ref (hT C x1.toNatClampNeg), .ref (hT C x2.toNatClampNeg)]) (st' := [.ref (hT C x2.toNatClampNeg), .int (I (hT C x1.toNatClampNeg) 3)]) hX ok_Wall_twoJoin rfl ?_
    refine kx_gets hq2 hX ok_Wall_twoJoin rfl (k := 3) (nx := 36) rfl ?_
    refine kx_go 1 (pc' := 37) (lv' := [.ref 1, .int x1, .int x2, .ref (hT C x1.toNatClampNeg), .ref (hT C x2.toNatClampNeg)]) (st' := [.int ((I (hT C x1.toNatClampNeg) 3) - (I (hT C x2.toNatClampNeg) 3))]) hX ok_Wall_twoJoin rfl ?_
    refine kx_abs (d := d) (by omega) ⟨Nat.le_of_ble_eq_true rfl, Nat.le_of_ble_eq_true rfl⟩ hX ok_Wall_twoJoin (nx := 40) rfl l_Wall_91 (Nat.le_of_ble_eq_true rfl) ?_
    refine kx_go 2 (pc' := if (9 : Int32) < (mabs ((I (hT C x1.toNatClampNeg) 3) - (I (hT C x2.toNatClampNeg) 3))) then 74 else 45) (lv' := [.ref 1, .int x1, .int x2, .ref (hT C x1.toNatClampNeg), .ref (hT C x2.toNatClampNeg)]) (st' := []) hX ok_Wall_twoJoin rfl ?_
    refine kx_ite (fun c4 => ?_) (fun c4 => ?_)
    · refine kx_go 1 (pc' := 75) (lv' := [.ref 1, .int x1, .int x2, .ref (hT C x1.toNatClampNeg), .ref (hT C x2.toNatClampNeg)]) (st' := [.int (0 : Int32)]) hX ok_Wall_twoJoin rfl ?_
      intro h; have h := Option.some.inj h; subst h
      exact kx_zret hX hE ok_Wall_twoJoin (nx := 76) rfl rfl (Or.inl rfl) ⟨Nat.le_of_ble_eq_true rfl, Nat.le_of_ble_eq_true rfl⟩
    · refine kx_go 1 (pc' := 46) (lv' := [.ref 1, .int x1, .int x2, .ref (hT C x1.toNatClampNeg), .ref (hT C x2.toNatClampNeg)]) (st' := [.ref (hT C x1.toNatClampNeg)]) hX ok_Wall_twoJoin rfl ?_
      refine kx_gets hq1 hX ok_Wall_twoJoin rfl (k := 2) (nx := 49) rfl ?_
      refine kx_go 1 (pc' := 51) (lv' := [.ref 1, .int x1, .int x2, .ref (hT C x1.toNatClampNeg), .ref (hT C x2.toNatClampNeg)]) (st' := [.ref (hT C x2.toNatClampNeg), .int (I (hT C x1.toNatClampNeg) 2)]) hX ok_Wall_twoJoin rfl ?_
      refine kx_gets hq2 hX ok_Wall_twoJoin rfl (k := 2) (nx := 54) rfl ?_
      refine kx_S (as := [.int (I (hT C x1.toNatClampNeg) 2), .int (I (hT C x2.toNatClampNeg) 2)]) hX ok_Wall_twoJoin (nx := 57) rfl l_Wall_156 (fun _ => s_Wall_far (G := G) (d := 1) (Nat.le_refl _) C I (I (hT C x1.toNatClampNeg) 2) (I (hT C x2.toNatClampNeg) 2) _ rfl) (by omega) rfl (rest := []) rfl (Nat.le_of_ble_eq_true rfl) ⟨Nat.le_of_ble_eq_true rfl, Nat.le_of_ble_eq_true rfl⟩ ?_
      show _ → kW G X m_Wall_twoJoin C I 0 0 57 [.ref 1, .int x1, .int x2, .ref (hT C x1.toNatClampNeg), .ref (hT C x2.toNatClampNeg)] [.int (M_Wall_far (I (hT C x1.toNatClampNeg) 2) (I (hT C x2.toNatClampNeg) 2))]
      refine kx_go 1 (pc' := 58) (lv' := [.ref 1, .int x1, .int x2, .ref (hT C x1.toNatClampNeg), .ref (hT C x2.toNatClampNeg)]) (st' := [.ref (hT C x1.toNatClampNeg), .int (M_Wall_far (I (hT C x1.toNatClampNeg) 2) (I (hT C x2.toNatClampNeg) 2))]) hX ok_Wall_twoJoin rfl ?_
      refine kx_U (as := []) hq1 hX ok_Wall_twoJoin (nx := 61) rfl (l_Wall_159 (gS_k hq1)) (fun _ => s_Vgap (G := G) (d := 1) (Nat.le_refl _) C I (hT C x1.toNatClampNeg) hq1 _ rfl) (by omega) rfl (rest := [.int (M_Wall_far (I (hT C x1.toNatClampNeg) 2) (I (hT C x2.toNatClampNeg) 2))]) rfl (Nat.le_of_ble_eq_true rfl) ⟨Nat.le_of_ble_eq_true rfl, Nat.le_of_ble_eq_true rfl⟩ ?_
      show _ → kW G X m_Wall_twoJoin C I 0 0 61 [.ref 1, .int x1, .int x2, .ref (hT C x1.toNatClampNeg), .ref (hT C x2.toNatClampNeg)] [.int (M_Vgap C I (hT C x1.toNatClampNeg)), .int (M_Wall_far (I (hT C x1.toNatClampNeg) 2) (I (hT C x2.toNatClampNeg) 2))]
      refine kx_go 1 (pc' := 63) (lv' := [.ref 1, .int x1, .int x2, .ref (hT C x1.toNatClampNeg), .ref (hT C x2.toNatClampNeg)]) (st' := [.ref (hT C x2.toNatClampNeg), .int (M_Vgap C I (hT C x1.toNatClampNeg)), .int (M_Wall_far (I (hT C x1.toNatClampNeg) 2) (I (hT C x2.toNatClampNeg) 2))]) hX ok_Wall_twoJoin rfl ?_
      refine kx_U (as := []) hq2 hX ok_Wall_twoJoin (nx := 66) rfl (l_Wall_159 (gS_k hq2)) (fun _ => s_Vgap (G := G) (d := 1) (Nat.le_refl _) C I (hT C x2.toNatClampNeg) hq2 _ rfl) (by omega) rfl (rest := [.int (M_Vgap C I (hT C x1.toNatClampNeg)), .int (M_Wall_far (I (hT C x1.toNatClampNeg) 2) (I (hT C x2.toNatClampNeg) 2))]) rfl (Nat.le_of_ble_eq_true rfl) ⟨Nat.le_of_ble_eq_true rfl, Nat.le_of_ble_eq_true rfl⟩ ?_
      show _ → kW G X m_Wall_twoJoin C I 0 0 66 [.ref 1, .int x1, .int x2, .ref (hT C x1.toNatClampNeg), .ref (hT C x2.toNatClampNeg)] [.int (M_Vgap C I (hT C x2.toNatClampNeg)), .int (M_Vgap C I (hT C x1.toNatClampNeg)), .int (M_Wall_far (I (hT C x1.toNatClampNeg) 2) (I (hT C x2.toNatClampNeg) 2))]
      refine kx_go 2 (pc' := if ((M_Vgap C I (hT C x1.toNatClampNeg)) + (M_Vgap C I (hT C x2.toNatClampNeg))) < (M_Wall_far (I (hT C x1.toNatClampNeg) 2) (I (hT C x2.toNatClampNeg) 2)) then 74 else 70) (lv' := [.ref 1, .int x1, .int x2, .ref (hT C x1.toNatClampNeg), .ref (hT C x2.toNatClampNeg)]) (st' := []) hX ok_Wall_twoJoin rfl ?_
      refine kx_ite (fun c5 => ?_) (fun c5 => ?_)
      · refine kx_go 1 (pc' := 75) (lv' := [.ref 1, .int x1, .int x2, .ref (hT C x1.toNatClampNeg), .ref (hT C x2.toNatClampNeg)]) (st' := [.int (0 : Int32)]) hX ok_Wall_twoJoin rfl ?_
        intro h; have h := Option.some.inj h; subst h
        exact kx_zret hX hE ok_Wall_twoJoin (nx := 76) rfl rfl (Or.inl rfl) ⟨Nat.le_of_ble_eq_true rfl, Nat.le_of_ble_eq_true rfl⟩
      · refine kx_go 2 (pc' := 75) (lv' := [.ref 1, .int x1, .int x2, .ref (hT C x1.toNatClampNeg), .ref (hT C x2.toNatClampNeg)]) (st' := [.int (1 : Int32)]) hX ok_Wall_twoJoin rfl ?_
        intro h; have h := Option.some.inj h; subst h
        exact kx_zret hX hE ok_Wall_twoJoin (nx := 76) rfl rfl (Or.inr rfl) ⟨Nat.le_of_ble_eq_true rfl, Nat.le_of_ble_eq_true rfl⟩
  · refine kx_go 1 (pc' := 75) (lv' := [.ref 1, .int x1, .int x2, .ref (hT C x1.toNatClampNeg), .ref (hT C x2.toNatClampNeg)]) (st' := [.int (0 : Int32)]) hX ok_Wall_twoJoin rfl ?_
    intro h; have h := Option.some.inj h; subst h
    exact kx_zret hX hE ok_Wall_twoJoin (nx := 76) rfl rfl (Or.inl rfl) ⟨Nat.le_of_ble_eq_true rfl, Nat.le_of_ble_eq_true rfl⟩
def M_H_join (C : HC) (I : HI) (x1 : Int32) (x2 : Int32) : Option (Int32 × HI) := if (M_Wall_areTwo I x1 x2) = (0 : Int32) then (Option.bind (M_H_error I (1 : Int32)) fun p2 => some (p2.1, p2.2)) else (Option.bind (M_Wall_twoJoin C I x1 x2) fun p3 => if p3 = (0 : Int32) then (some ((0 : Int32), I)) else (some ((1 : Int32), I)))
theorem s_H_join {G : xG} {d : Nat} (hd : 3 ≤ d) (C : HC) (I : HI) (x1 : Int32) (x2 : Int32)  (r : Int32 × HI) : M_H_join C I x1 x2 = some r → kM G d m_H_join [.ref 0, .int x1, .int x2] C I 0 0 (some (.int r.1)) C r.2 := by
  unfold M_H_join
  refine kM.of (by decide +kernel) (Nat.le_of_ble_eq_true rfl) (lv := [.ref 0, .int x1, .int x2]) rfl (fun X hX hE => ?_)
  refine kx_go 1 (pc' := 1) (lv' := [.ref 0, .int x1, .int x2]) (st' := [.ref 0]) hX ok_H_join rfl ?_
  refine kx_getp hX ok_H_join rfl (q := 1) (nx := 4) rfl ?_
  refine kx_go 2 (pc' := 6) (lv' := [.ref 0, .int x1, .int x2]) (st' := [.int x2, .int x1, .ref 1]) hX ok_H_join rfl ?_
  refine kx_V (r := 1) (as := [.int x1, .int x2]) (by decide) hX ok_H_join (nx := 9) rfl l_H_156 (by decide) rfl (fun _ => s_Wall_areTwo (G := G) (d := 1) (Nat.le_refl _) C I x1 x2 _ rfl) (by omega) rfl (rest := []) rfl (Nat.le_of_ble_eq_true rfl) ⟨Nat.le_of_ble_eq_true rfl, Nat.le_of_ble_eq_true rfl⟩ ?_
  show _ → kW G X m_H_join C I 0 0 9 [.ref 0, .int x1, .int x2] [.int (M_Wall_areTwo I x1 x2)]
  refine kx_go 1 (pc' := if (M_Wall_areTwo I x1 x2) = (0 : Int32) then 12 else 18) (lv' := [.ref 0, .int x1, .int x2]) (st' := []) hX ok_H_join rfl ?_
  refine kx_ite (fun c1 => ?_) (fun c1 => ?_)
  · refine kx_go 2 (pc' := 14) (lv' := [.ref 0, .int x1, .int x2]) (st' := [.int (1 : Int32), .ref 0]) hX ok_H_join rfl ?_
    refine kx_bind (fun p2 hp2 => ?_)
    refine kx_V (r := 0) (as := [.int (1 : Int32)]) (by decide) hX ok_H_join (nx := 17) rfl l_H_60 (by decide) rfl (fun _ => s_H_error (G := G) (d := 0) (Nat.le_refl _) C I (1 : Int32) p2 hp2) (by omega) rfl (rest := []) rfl (Nat.le_of_ble_eq_true rfl) ⟨Nat.le_of_ble_eq_true rfl, Nat.le_of_ble_eq_true rfl⟩ ?_
    show _ → kW G X m_H_join C p2.2 0 0 17 [.ref 0, .int x1, .int x2] [.int p2.1]
    intro h; have h := Option.some.inj h; subst h
    exact kx_iret hX hE ok_H_join (nx := 18) rfl rfl ⟨Nat.le_of_ble_eq_true rfl, Nat.le_of_ble_eq_true rfl⟩
  · refine kx_go 1 (pc' := 19) (lv' := [.ref 0, .int x1, .int x2]) (st' := [.ref 0]) hX ok_H_join rfl ?_
    refine kx_getp hX ok_H_join rfl (q := 1) (nx := 22) rfl ?_
    refine kx_go 2 (pc' := 24) (lv' := [.ref 0, .int x1, .int x2]) (st' := [.int x2, .int x1, .ref 1]) hX ok_H_join rfl ?_
    refine kx_bind (fun p3 hp3 => ?_)
    refine kx_V (r := 1) (as := [.int x1, .int x2]) (by decide) hX ok_H_join (nx := 27) rfl l_H_201 (by decide) rfl (fun _ => s_Wall_twoJoin (G := G) (d := 2) (Nat.le_refl _) C I x1 x2 p3 hp3) (by omega) rfl (rest := []) rfl (Nat.le_of_ble_eq_true rfl) ⟨Nat.le_of_ble_eq_true rfl, Nat.le_of_ble_eq_true rfl⟩ ?_
    show _ → kW G X m_H_join C I 0 0 27 [.ref 0, .int x1, .int x2] [.int p3]
    refine kx_go 1 (pc' := if p3 = (0 : Int32) then 34 else 30) (lv' := [.ref 0, .int x1, .int x2]) (st' := []) hX ok_H_join rfl ?_
    refine kx_ite (fun c4 => ?_) (fun c4 => ?_)
    · refine kx_go 1 (pc' := 35) (lv' := [.ref 0, .int x1, .int x2]) (st' := [.int (0 : Int32)]) hX ok_H_join rfl ?_
      intro h; have h := Option.some.inj h; subst h
      exact kx_iret hX hE ok_H_join (nx := 36) rfl rfl ⟨Nat.le_of_ble_eq_true rfl, Nat.le_of_ble_eq_true rfl⟩
    · refine kx_go 2 (pc' := 35) (lv' := [.ref 0, .int x1, .int x2]) (st' := [.int (1 : Int32)]) hX ok_H_join rfl ?_
      intro h; have h := Option.some.inj h; subst h
      exact kx_iret hX hE ok_H_join (nx := 36) rfl rfl ⟨Nat.le_of_ble_eq_true rfl, Nat.le_of_ble_eq_true rfl⟩
def L_Sets_lowestOf_2 (x0 : Int32) (I : HI) : Nat → Int32 → Option (Nat × Int32)
  | 0, _ => none
  | f + 1, x1 => if (8 : Int32) ≤ x1 then (some (1, x1)) else (if (M_Sets_has x0 x1) = (0 : Int32) then (L_Sets_lowestOf_2 x0 I f (x1 + (1 : Int32))) else (some (0, x1)))
theorem s_L_Sets_lowestOf_2 {G : xG} {X : xC} {d : Nat} (hd : 1 ≤ d) (hX : xAmb G X m_Sets_lowestOf d 0 0)  (C : HC) (x0 : Int32) (I : HI) : ∀ (f : Nat) (x1 : Int32) (r : Nat × Int32), (r.1 = 0 → kW G X m_Sets_lowestOf C I 0 0 16 [.null, .int r.2] []) → (¬ r.1 = 0 → kW G X m_Sets_lowestOf C I 0 0 24 [.null, .null] []) → L_Sets_lowestOf_2 x0 I f x1 = some r → kW G X m_Sets_lowestOf C I 0 0 2 [.int x0, .int x1] [] := by
  intro f
  induction f with
  | zero => intro x1 r hk0 hk1 h; rw [L_Sets_lowestOf_2] at h; cases h
  | succ f ih =>
    intro x1 r hk0 hk1
    rw [L_Sets_lowestOf_2]
    refine kx_go 3 (pc' := if (8 : Int32) ≤ x1 then 24 else 8) (lv' := [.int x0, .int x1]) (st' := []) hX ok_Sets_lowestOf rfl ?_
    refine kx_ite (fun c1 => ?_) (fun c1 => ?_)
    · refine kx_weak (lv' := [.null, .null]) (by simp [xsub]) ?_
      intro h; have h := Option.some.inj h; subst h
      exact hk1 (show ¬ (1 : Nat) = 0 by decide)
    · refine kx_go 2 (pc' := 10) (lv' := [.int x0, .int x1]) (st' := [.int x1, .int x0]) hX ok_Sets_lowestOf rfl ?_
      refine kx_S (as := [.int x0, .int x1]) hX ok_Sets_lowestOf (nx := 13) rfl l_Sets_52 (fun _ => s_Sets_has (G := G) (d := 0) (Nat.le_refl _) C I x0 x1 _ rfl) (by omega) rfl (rest := []) rfl (Nat.le_of_ble_eq_true rfl) ⟨Nat.le_of_ble_eq_true rfl, Nat.le_of_ble_eq_true rfl⟩ ?_
      show _ → kW G X m_Sets_lowestOf C I 0 0 13 [.int x0, .int x1] [.int (M_Sets_has x0 x1)]
      refine kx_go 1 (pc' := if (M_Sets_has x0 x1) = (0 : Int32) then 18 else 16) (lv' := [.int x0, .int x1]) (st' := []) hX ok_Sets_lowestOf rfl ?_
      refine kx_ite (fun c2 => ?_) (fun c2 => ?_)
      · refine kx_go 2 (pc' := 2) (lv' := [.int x0, .int (x1 + (1 : Int32))]) (st' := []) hX ok_Sets_lowestOf rfl ?_
        exact fun h => ih (x1 + (1 : Int32)) r hk0 hk1 h
      · refine kx_weak (lv' := [.null, .int x1]) (by simp [xsub]) ?_
        intro h; have h := Option.some.inj h; subst h
        exact hk0 rfl
def M_Sets_lowestOf (I : HI) (x0 : Int32) : Option (Int32) := Option.bind (L_Sets_lowestOf_2 x0 I 1000 (0 : Int32)) fun p1 => if p1.1 = 0 then (some p1.2) else (some (0 : Int32))
theorem s_Sets_lowestOf {G : xG} {d : Nat} (hd : 1 ≤ d) (C : HC) (I : HI) (x0 : Int32)  (r : Int32) : M_Sets_lowestOf I x0 = some r → kM G d m_Sets_lowestOf [.int x0] C I 0 0 (some (.int r)) C I := by
  unfold M_Sets_lowestOf
  refine kM.of (by decide +kernel) (Nat.le_of_ble_eq_true rfl) (lv := [.int x0, .null]) rfl (fun X hX hE => ?_)
  refine kx_go 2 (pc' := 2) (lv' := [.int x0, .int (0 : Int32)]) (st' := []) hX ok_Sets_lowestOf rfl ?_
  refine kx_bind (fun p1 hp1 => ?_)
  refine kx_via2 (fun hk0 hk1 => s_L_Sets_lowestOf_2 (G := G) (X := X) (by omega) hX C x0 I 1000 (0 : Int32) p1 hk0 hk1 hp1) (fun _ => ?_) (fun _ => ?_)
  · refine kx_go 1 (pc' := 17) (lv' := [.null, .int p1.2]) (st' := [.int p1.2]) hX ok_Sets_lowestOf rfl ?_
    intro h; have h := Option.some.inj h; subst h
    exact kx_iret hX hE ok_Sets_lowestOf (nx := 18) rfl rfl ⟨Nat.le_of_ble_eq_true rfl, Nat.le_of_ble_eq_true rfl⟩
  · refine kx_go 1 (pc' := 25) (lv' := [.null, .null]) (st' := [.int (0 : Int32)]) hX ok_Sets_lowestOf rfl ?_
    intro h; have h := Option.some.inj h; subst h
    exact kx_iret hX hE ok_Sets_lowestOf (nx := 26) rfl rfl ⟨Nat.le_of_ble_eq_true rfl, Nat.le_of_ble_eq_true rfl⟩
def L_Sets_findBeasts_19 (C : HC) (x2 : Int32) : Nat → Int32 → HI → Option (HI)
  | 0, _, _ => none
  | f + 1, x3, I => if (I 1 1) ≤ x3 then (some I) else (if x2 = x3 then (L_Sets_findBeasts_19 C x2 f (x3 + (1 : Int32)) I) else (Option.bind (M_Wall_twoJoin C I x2 x3) fun p3 => if p3 = (0 : Int32) then (L_Sets_findBeasts_19 C x2 f (x3 + (1 : Int32)) I) else (grd (bnd x2 8) (lt (xu I 66 x2.toNatClampNeg ((I 66 x2.toNatClampNeg) ||| ((1 : Int32) <<< (x3 &&& (31 : Int32))))) fun J6 => L_Sets_findBeasts_19 C x2 f (x3 + (1 : Int32)) J6))))
theorem s_L_Sets_findBeasts_19 {G : xG} {X : xC} {d : Nat} (hd : 3 ≤ d) (hX : xAmb G X m_Sets_findBeasts d 0 0)  (C : HC) (x2 : Int32) : ∀ (f : Nat) (x3 : Int32) (I : HI) (r : HI), (kW G X m_Sets_findBeasts C r 0 0 59 [.ref 63, .ref 1, .int x2, .null, .null] []) → L_Sets_findBeasts_19 C x2 f x3 I = some r → kW G X m_Sets_findBeasts C I 0 0 19 [.ref 63, .ref 1, .int x2, .int x3, .null] [] := by
  intro f
  induction f with
  | zero => intro x3 I r hk h; rw [L_Sets_findBeasts_19] at h; cases h
  | succ f ih =>
    intro x3 I r hk
    rw [L_Sets_findBeasts_19]
    refine kx_go 2 (pc' := 21) (lv' := [.ref 63, .ref 1, .int x2, .int x3, .null]) (st' := [.ref 1, .int x3]) hX ok_Sets_findBeasts rfl ?_
    refine kx_geti hX ok_Sets_findBeasts rfl (k := 1) (nx := 24) rfl ?_
    refine kx_go 1 (pc' := if (I 1 1) ≤ x3 then 59 else 27) (lv' := [.ref 63, .ref 1, .int x2, .int x3, .null]) (st' := []) hX ok_Sets_findBeasts rfl ?_
    refine kx_ite (fun c1 => ?_) (fun c1 => ?_)
    · refine kx_weak (lv' := [.ref 63, .ref 1, .int x2, .null, .null]) (by simp [xsub]) ?_
      intro h; have h := Option.some.inj h; subst h
      exact hk
    · refine kx_go 3 (pc' := if x2 = x3 then 53 else 32) (lv' := [.ref 63, .ref 1, .int x2, .int x3, .null]) (st' := []) hX ok_Sets_findBeasts rfl ?_
      refine kx_ite (fun c2 => ?_) (fun c2 => ?_)
      · refine kx_go 2 (pc' := 19) (lv' := [.ref 63, .ref 1, .int x2, .int (x3 + (1 : Int32)), .null]) (st' := []) hX ok_Sets_findBeasts rfl ?_
        exact fun h => ih (x3 + (1 : Int32)) I r hk h
      · refine kx_go 3 (pc' := 35) (lv' := [.ref 63, .ref 1, .int x2, .int x3, .null]) (st' := [.int x3, .int x2, .ref 1]) hX ok_Sets_findBeasts rfl ?_
        refine kx_bind (fun p3 hp3 => ?_)
        refine kx_V (r := 1) (as := [.int x2, .int x3]) (by decide) hX ok_Sets_findBeasts (nx := 38) rfl l_Sets_87 (by decide) rfl (fun _ => s_Wall_twoJoin (G := G) (d := 2) (Nat.le_refl _) C I x2 x3 p3 hp3) (by omega) rfl (rest := []) rfl (Nat.le_of_ble_eq_true rfl) ⟨Nat.le_of_ble_eq_true rfl, Nat.le_of_ble_eq_true rfl⟩ ?_
        show _ → kW G X m_Sets_findBeasts C I 0 0 38 [.ref 63, .ref 1, .int x2, .int x3, .null] [.int p3]
        refine kx_go 1 (pc' := if p3 = (0 : Int32) then 53 else 41) (lv' := [.ref 63, .ref 1, .int x2, .int x3, .null]) (st' := []) hX ok_Sets_findBeasts rfl ?_
        refine kx_ite (fun c4 => ?_) (fun c4 => ?_)
        · refine kx_go 2 (pc' := 19) (lv' := [.ref 63, .ref 1, .int x2, .int (x3 + (1 : Int32)), .null]) (st' := []) hX ok_Sets_findBeasts rfl ?_
          exact fun h => ih (x3 + (1 : Int32)) I r hk h
        · refine kx_go 1 (pc' := 42) (lv' := [.ref 63, .ref 1, .int x2, .int x3, .null]) (st' := [.ref 63]) hX ok_Sets_findBeasts rfl ?_
          refine kx_getp hX ok_Sets_findBeasts rfl (q := 66) (nx := 45) rfl ?_
          refine kx_go 2 (pc' := 47) (lv' := [.ref 63, .ref 1, .int x2, .int x3, .null]) (st' := [.int x2, .ref 66, .int x2, .ref 66]) hX ok_Sets_findBeasts rfl ?_
          refine kx_iald hX ok_Sets_findBeasts (w := 8) (nx := 48) rfl (fun b5 => ?_)
          refine kx_go 4 (pc' := 52) (lv' := [.ref 63, .ref 1, .int x2, .int x3, .null]) (st' := [.int ((I 66 x2.toNatClampNeg) ||| ((1 : Int32) <<< (x3 &&& (31 : Int32)))), .int x2, .ref 66]) hX ok_Sets_findBeasts rfl ?_
          refine kx_iastc hX ok_Sets_findBeasts (w := 8) (nx := 53) rfl b5 (k := x2.toNatClampNeg) rfl ?_
          refine kx_lt (Q := fun J6 => kW G X m_Sets_findBeasts C J6 0 0 53 [.ref 63, .ref 1, .int x2, .int x3, .null] []) (fun J6 eJ6 => ?_)
          refine kx_go 2 (pc' := 19) (lv' := [.ref 63, .ref 1, .int x2, .int (x3 + (1 : Int32)), .null]) (st' := []) hX ok_Sets_findBeasts rfl ?_
          exact fun h => ih (x3 + (1 : Int32)) J6 r hk h
def L_Sets_findBeasts_2 (C : HC) : Nat → Int32 → HI → Option (HI)
  | 0, _, _ => none
  | f + 1, x2, I => if (I 1 1) ≤ x2 then (some I) else (grd (bnd x2 8) (lt (xu I 66 x2.toNatClampNeg (0 : Int32)) fun J3 => Option.bind (L_Sets_findBeasts_19 C x2 1000 (0 : Int32) J3) fun p4 => L_Sets_findBeasts_2 C f (x2 + (1 : Int32)) p4))
theorem s_L_Sets_findBeasts_2 {G : xG} {X : xC} {d : Nat} (hd : 3 ≤ d) (hX : xAmb G X m_Sets_findBeasts d 0 0)  (C : HC) : ∀ (f : Nat) (x2 : Int32) (I : HI) (r : HI), (kW G X m_Sets_findBeasts C r 0 0 65 [.ref 63, .ref 1, .null, .null, .null] []) → L_Sets_findBeasts_2 C f x2 I = some r → kW G X m_Sets_findBeasts C I 0 0 2 [.ref 63, .ref 1, .int x2, .null, .null] [] := by
  intro f
  induction f with
  | zero => intro x2 I r hk h; rw [L_Sets_findBeasts_2] at h; cases h
  | succ f ih =>
    intro x2 I r hk
    rw [L_Sets_findBeasts_2]
    refine kx_go 2 (pc' := 4) (lv' := [.ref 63, .ref 1, .int x2, .null, .null]) (st' := [.ref 1, .int x2]) hX ok_Sets_findBeasts rfl ?_
    refine kx_geti hX ok_Sets_findBeasts rfl (k := 1) (nx := 7) rfl ?_
    refine kx_go 1 (pc' := if (I 1 1) ≤ x2 then 65 else 10) (lv' := [.ref 63, .ref 1, .int x2, .null, .null]) (st' := []) hX ok_Sets_findBeasts rfl ?_
    refine kx_ite (fun c1 => ?_) (fun c1 => ?_)
    · refine kx_weak (lv' := [.ref 63, .ref 1, .null, .null, .null]) (by simp [xsub]) ?_
      intro h; have h := Option.some.inj h; subst h
      exact hk
    · refine kx_go 1 (pc' := 11) (lv' := [.ref 63, .ref 1, .int x2, .null, .null]) (st' := [.ref 63]) hX ok_Sets_findBeasts rfl ?_
      refine kx_getp hX ok_Sets_findBeasts rfl (q := 66) (nx := 14) rfl ?_
      refine kx_go 2 (pc' := 16) (lv' := [.ref 63, .ref 1, .int x2, .null, .null]) (st' := [.int (0 : Int32), .int x2, .ref 66]) hX ok_Sets_findBeasts rfl ?_
      refine kx_iast hX ok_Sets_findBeasts (w := 8) (nx := 17) rfl (fun b2 => ?_)
      refine kx_lt (Q := fun J3 => kW G X m_Sets_findBeasts C J3 0 0 17 [.ref 63, .ref 1, .int x2, .null, .null] []) (fun J3 eJ3 => ?_)
      refine kx_go 2 (pc' := 19) (lv' := [.ref 63, .ref 1, .int x2, .int (0 : Int32), .null]) (st' := []) hX ok_Sets_findBeasts rfl ?_
      refine kx_bind (fun p4 hp4 => ?_)
      refine kx_via (fun hk => s_L_Sets_findBeasts_19 (G := G) (X := X) (by omega) hX C x2 1000 (0 : Int32) J3 p4 hk hp4) ?_
      refine kx_go 2 (pc' := 2) (lv' := [.ref 63, .ref 1, .int (x2 + (1 : Int32)), .null, .null]) (st' := []) hX ok_Sets_findBeasts rfl ?_
      exact fun h => ih (x2 + (1 : Int32)) p4 r hk h
def L_Sets_findBeasts_79 (x2 : Int32) : Nat → Int32 → HI → Option (HI)
  | 0, _, _ => none
  | f + 1, x3, I => if x2 < x3 then (some I) else (grd (bnd (x3 &&& (x3 - (1 : Int32))) 256) (if (I 71 (x3 &&& (x3 - (1 : Int32))).toNatClampNeg) = (0 : Int32) then (grd (bnd x3 256) (lt (xu I 71 x3.toNatClampNeg (0 : Int32)) fun J5 => L_Sets_findBeasts_79 x2 f (x3 + (1 : Int32)) J5)) else (Option.bind (M_Sets_lowestOf I x3) fun p6 => grd (bnd p6 8) (if ((x3 &&& (x3 - (1 : Int32))) &&& ((I 66 p6.toNatClampNeg) ^^^ (-1 : Int32))) = (0 : Int32) then (grd (bnd x3 256) (lt (xu I 71 x3.toNatClampNeg (1 : Int32)) fun J10 => L_Sets_findBeasts_79 x2 f (x3 + (1 : Int32)) J10)) else (grd (bnd x3 256) (lt (xu I 71 x3.toNatClampNeg (0 : Int32)) fun J12 => L_Sets_findBeasts_79 x2 f (x3 + (1 : Int32)) J12))))))
theorem s_L_Sets_findBeasts_79 {G : xG} {X : xC} {d : Nat} (hd : 3 ≤ d) (hX : xAmb G X m_Sets_findBeasts d 0 0)  (C : HC) (x2 : Int32) : ∀ (f : Nat) (x3 : Int32) (I : HI) (r : HI), (kW G X m_Sets_findBeasts C r 0 0 135 [.null, .null, .null, .null, .null] []) → L_Sets_findBeasts_79 x2 f x3 I = some r → kW G X m_Sets_findBeasts C I 0 0 79 [.ref 63, .null, .int x2, .int x3, .null] [] := by
  intro f
  induction f with
  | zero => intro x3 I r hk h; rw [L_Sets_findBeasts_79] at h; cases h
  | succ f ih =>
    intro x3 I r hk
    rw [L_Sets_findBeasts_79]
    refine kx_go 3 (pc' := if x2 < x3 then 135 else 84) (lv' := [.ref 63, .null, .int x2, .int x3, .null]) (st' := []) hX ok_Sets_findBeasts rfl ?_
    refine kx_ite (fun c1 => ?_) (fun c1 => ?_)
    · refine kx_weak (lv' := [.null, .null, .null, .null, .null]) (by simp [xsub]) ?_
      intro h; have h := Option.some.inj h; subst h
      exact hk
    · refine kx_go 7 (pc' := 92) (lv' := [.ref 63, .null, .int x2, .int x3, .int (x3 &&& (x3 - (1 : Int32)))]) (st' := [.ref 63]) hX ok_Sets_findBeasts rfl ?_
      refine kx_getp hX ok_Sets_findBeasts rfl (q := 71) (nx := 95) rfl ?_
      refine kx_go 2 (pc' := 97) (lv' := [.ref 63, .null, .int x2, .int x3, .int (x3 &&& (x3 - (1 : Int32)))]) (st' := [.ref 63, .int x3, .ref 71]) hX ok_Sets_findBeasts rfl ?_
      refine kx_getp hX ok_Sets_findBeasts rfl (q := 71) (nx := 100) rfl ?_
      refine kx_go 1 (pc' := 102) (lv' := [.ref 63, .null, .int x2, .int x3, .int (x3 &&& (x3 - (1 : Int32)))]) (st' := [.int (x3 &&& (x3 - (1 : Int32))), .ref 71, .int x3, .ref 71]) hX ok_Sets_findBeasts rfl ?_
      refine kx_bald hX ok_Sets_findBeasts (w := 256) (nx := 103) rfl (fun b2 => ?_)
      refine kx_go 1 (pc' := if (I 71 (x3 &&& (x3 - (1 : Int32))).toNatClampNeg) = (0 : Int32) then 127 else 106) (lv' := [.ref 63, .null, .int x2, .int x3, .int (x3 &&& (x3 - (1 : Int32)))]) (st' := [.int x3, .ref 71]) hX ok_Sets_findBeasts rfl ?_
      refine kx_ite (fun c3 => ?_) (fun c3 => ?_)
      · refine kx_go 1 (pc' := 128) (lv' := [.ref 63, .null, .int x2, .int x3, .int (x3 &&& (x3 - (1 : Int32)))]) (st' := [.int (0 : Int32), .int x3, .ref 71]) hX ok_Sets_findBeasts rfl ?_
        refine kx_bast hX ok_Sets_findBeasts (w := 256) (nx := 129) rfl (Or.inl rfl) (fun b4 => ?_)
        refine kx_lt (Q := fun J5 => kW G X m_Sets_findBeasts C J5 0 0 129 [.ref 63, .null, .int x2, .int x3, .int (x3 &&& (x3 - (1 : Int32)))] []) (fun J5 eJ5 => ?_)
        refine kx_go 2 (pc' := 79) (lv' := [.ref 63, .null, .int x2, .int (x3 + (1 : Int32)), .int (x3 &&& (x3 - (1 : Int32)))]) (st' := []) hX ok_Sets_findBeasts rfl ?_
        refine kx_weak (lv' := [.ref 63, .null, .int x2, .int (x3 + (1 : Int32)), .null]) (by simp [xsub]) ?_
        exact fun h => ih (x3 + (1 : Int32)) J5 r hk h
      · refine kx_go 2 (pc' := 109) (lv' := [.ref 63, .null, .int x2, .int x3, .int (x3 &&& (x3 - (1 : Int32)))]) (st' := [.ref 63, .int (x3 &&& (x3 - (1 : Int32))), .int x3, .ref 71]) hX ok_Sets_findBeasts rfl ?_
        refine kx_getp hX ok_Sets_findBeasts rfl (q := 66) (nx := 112) rfl ?_
        refine kx_go 1 (pc' := 113) (lv' := [.ref 63, .null, .int x2, .int x3, .int (x3 &&& (x3 - (1 : Int32)))]) (st' := [.int x3, .ref 66, .int (x3 &&& (x3 - (1 : Int32))), .int x3, .ref 71]) hX ok_Sets_findBeasts rfl ?_
        refine kx_bind (fun p6 hp6 => ?_)
        refine kx_S (as := [.int x3]) hX ok_Sets_findBeasts (nx := 116) rfl l_Sets_90 (fun _ => s_Sets_lowestOf (G := G) (d := 1) (Nat.le_refl _) C I x3 p6 hp6) (by omega) rfl (rest := [.ref 66, .int (x3 &&& (x3 - (1 : Int32))), .int x3, .ref 71]) rfl (Nat.le_of_ble_eq_true rfl) ⟨Nat.le_of_ble_eq_true rfl, Nat.le_of_ble_eq_true rfl⟩ ?_
        show _ → kW G X m_Sets_findBeasts C I 0 0 116 [.ref 63, .null, .int x2, .int x3, .int (x3 &&& (x3 - (1 : Int32)))] [.int p6, .ref 66, .int (x3 &&& (x3 - (1 : Int32))), .int x3, .ref 71]
        refine kx_iald hX ok_Sets_findBeasts (w := 8) (nx := 117) rfl (fun b7 => ?_)
        refine kx_go 4 (pc' := if ((x3 &&& (x3 - (1 : Int32))) &&& ((I 66 p6.toNatClampNeg) ^^^ (-1 : Int32))) = (0 : Int32) then 123 else 127) (lv' := [.ref 63, .null, .int x2, .int x3, .int (x3 &&& (x3 - (1 : Int32)))]) (st' := [.int x3, .ref 71]) hX ok_Sets_findBeasts rfl ?_
        refine kx_ite (fun c8 => ?_) (fun c8 => ?_)
        · refine kx_go 2 (pc' := 128) (lv' := [.ref 63, .null, .int x2, .int x3, .int (x3 &&& (x3 - (1 : Int32)))]) (st' := [.int (1 : Int32), .int x3, .ref 71]) hX ok_Sets_findBeasts rfl ?_
          refine kx_bast hX ok_Sets_findBeasts (w := 256) (nx := 129) rfl (Or.inr rfl) (fun b9 => ?_)
          refine kx_lt (Q := fun J10 => kW G X m_Sets_findBeasts C J10 0 0 129 [.ref 63, .null, .int x2, .int x3, .int (x3 &&& (x3 - (1 : Int32)))] []) (fun J10 eJ10 => ?_)
          refine kx_go 2 (pc' := 79) (lv' := [.ref 63, .null, .int x2, .int (x3 + (1 : Int32)), .int (x3 &&& (x3 - (1 : Int32)))]) (st' := []) hX ok_Sets_findBeasts rfl ?_
          refine kx_weak (lv' := [.ref 63, .null, .int x2, .int (x3 + (1 : Int32)), .null]) (by simp [xsub]) ?_
          exact fun h => ih (x3 + (1 : Int32)) J10 r hk h
        · refine kx_go 1 (pc' := 128) (lv' := [.ref 63, .null, .int x2, .int x3, .int (x3 &&& (x3 - (1 : Int32)))]) (st' := [.int (0 : Int32), .int x3, .ref 71]) hX ok_Sets_findBeasts rfl ?_
          refine kx_bast hX ok_Sets_findBeasts (w := 256) (nx := 129) rfl (Or.inl rfl) (fun b11 => ?_)
          refine kx_lt (Q := fun J12 => kW G X m_Sets_findBeasts C J12 0 0 129 [.ref 63, .null, .int x2, .int x3, .int (x3 &&& (x3 - (1 : Int32)))] []) (fun J12 eJ12 => ?_)
          refine kx_go 2 (pc' := 79) (lv' := [.ref 63, .null, .int x2, .int (x3 + (1 : Int32)), .int (x3 &&& (x3 - (1 : Int32)))]) (st' := []) hX ok_Sets_findBeasts rfl ?_
          refine kx_weak (lv' := [.ref 63, .null, .int x2, .int (x3 + (1 : Int32)), .null]) (by simp [xsub]) ?_
          exact fun h => ih (x3 + (1 : Int32)) J12 r hk h
def M_Sets_findBeasts (C : HC) (I : HI) : Option (HI) := Option.bind (L_Sets_findBeasts_2 C 1000 (0 : Int32) I) fun p1 => lt (xu p1 71 0 (1 : Int32)) fun J2 => Option.bind (L_Sets_findBeasts_79 (M_Sets_allOf p1) 1000 (1 : Int32) J2) fun p3 => some p3
theorem s_Sets_findBeasts {G : xG} {d : Nat} (hd : 3 ≤ d) (C : HC) (I : HI)   (r : HI) : M_Sets_findBeasts C I = some r → kM G d m_Sets_findBeasts [.ref 63, .ref 1] C I 0 0 none C r := by
  unfold M_Sets_findBeasts
  refine kM.of (by decide +kernel) (Nat.le_of_ble_eq_true rfl) (lv := [.ref 63, .ref 1, .null, .null, .null]) rfl (fun X hX hE => ?_)
  refine kx_go 2 (pc' := 2) (lv' := [.ref 63, .ref 1, .int (0 : Int32), .null, .null]) (st' := []) hX ok_Sets_findBeasts rfl ?_
  refine kx_bind (fun p1 hp1 => ?_)
  refine kx_via (fun hk => s_L_Sets_findBeasts_2 (G := G) (X := X) (by omega) hX C 1000 (0 : Int32) I p1 hk hp1) ?_
  refine kx_go 1 (pc' := 66) (lv' := [.ref 63, .ref 1, .null, .null, .null]) (st' := [.ref 1]) hX ok_Sets_findBeasts rfl ?_
  refine kx_S (as := [.ref 1]) hX ok_Sets_findBeasts (nx := 69) rfl l_Sets_60 (fun _ => s_Sets_allOf (G := G) (d := 0) (Nat.le_refl _) C p1  _ rfl) (by omega) rfl (rest := []) rfl (Nat.le_of_ble_eq_true rfl) ⟨Nat.le_of_ble_eq_true rfl, Nat.le_of_ble_eq_true rfl⟩ ?_
  show _ → kW G X m_Sets_findBeasts C p1 0 0 69 [.ref 63, .ref 1, .null, .null, .null] [.int (M_Sets_allOf p1)]
  refine kx_go 2 (pc' := 71) (lv' := [.ref 63, .ref 1, .int (M_Sets_allOf p1), .null, .null]) (st' := [.ref 63]) hX ok_Sets_findBeasts rfl ?_
  refine kx_getp hX ok_Sets_findBeasts rfl (q := 71) (nx := 74) rfl ?_
  refine kx_go 2 (pc' := 76) (lv' := [.ref 63, .ref 1, .int (M_Sets_allOf p1), .null, .null]) (st' := [.int (1 : Int32), .int (0 : Int32), .ref 71]) hX ok_Sets_findBeasts rfl ?_
  refine kx_bastc hX ok_Sets_findBeasts (w := 256) (nx := 77) rfl (Or.inr rfl) rfl (k := 0) rfl ?_
  refine kx_lt (Q := fun J2 => kW G X m_Sets_findBeasts C J2 0 0 77 [.ref 63, .ref 1, .int (M_Sets_allOf p1), .null, .null] []) (fun J2 eJ2 => ?_)
  refine kx_go 2 (pc' := 79) (lv' := [.ref 63, .ref 1, .int (M_Sets_allOf p1), .int (1 : Int32), .null]) (st' := []) hX ok_Sets_findBeasts rfl ?_
  refine kx_weak (lv' := [.ref 63, .null, .int (M_Sets_allOf p1), .int (1 : Int32), .null]) (by simp [xsub]) ?_
  refine kx_bind (fun p3 hp3 => ?_)
  refine kx_via (fun hk => s_L_Sets_findBeasts_79 (G := G) (X := X) (by omega) hX C (M_Sets_allOf p1) 1000 (1 : Int32) J2 p3 hk hp3) ?_
  intro h; have h := Option.some.inj h; subst h
  exact kx_vret hX hE ok_Sets_findBeasts (nx := 136) rfl rfl ⟨Nat.le_of_ble_eq_true rfl, Nat.le_of_ble_eq_true rfl⟩
def M_Int_bitCount (x0 : Int32) : Int32 := lt (((x0 - ((ush x0 (1 : Int32)) &&& (1431655765 : Int32))) &&& (858993459 : Int32)) + ((ush (x0 - ((ush x0 (1 : Int32)) &&& (1431655765 : Int32))) (2 : Int32)) &&& (858993459 : Int32))) fun y1 => lt (((y1 + (ush y1 (4 : Int32))) &&& (252645135 : Int32)) + (ush ((y1 + (ush y1 (4 : Int32))) &&& (252645135 : Int32)) (8 : Int32))) fun y2 => ((y2 + (ush y2 (16 : Int32))) &&& (63 : Int32))
theorem s_Int_bitCount {G : xG} {d : Nat} (hd : 0 ≤ d) (C : HC) (I : HI) (x0 : Int32)  (r : Int32) : M_Int_bitCount x0 = r → kM G d m_Int_bitCount [.int x0] C I 0 0 (some (.int r)) C I := by
  unfold M_Int_bitCount
  refine kM.of (by decide +kernel) (Nat.le_of_ble_eq_true rfl) (lv := [.int x0]) rfl (fun X hX hE => ?_)
  refine kx_go 18 (pc' := 24) (lv' := [.int (((x0 - ((ush x0 (1 : Int32)) &&& (1431655765 : Int32))) &&& (858993459 : Int32)) + ((ush (x0 - ((ush x0 (1 : Int32)) &&& (1431655765 : Int32))) (2 : Int32)) &&& (858993459 : Int32)))]) (st' := []) hX ok_Int_bitCount rfl ?_
  refine kx_lt (Q := fun y1 => kW G X m_Int_bitCount C I 0 0 24 [.int y1] []) (fun y1 ey1 => ?_)
  refine kx_go 14 (pc' := 41) (lv' := [.int (((y1 + (ush y1 (4 : Int32))) &&& (252645135 : Int32)) + (ush ((y1 + (ush y1 (4 : Int32))) &&& (252645135 : Int32)) (8 : Int32)))]) (st' := []) hX ok_Int_bitCount rfl ?_
  refine kx_lt (Q := fun y2 => kW G X m_Int_bitCount C I 0 0 41 [.int y2] []) (fun y2 ey2 => ?_)
  refine kx_go 9 (pc' := 52) (lv' := [.int (y2 + (ush y2 (16 : Int32)))]) (st' := [.int ((y2 + (ush y2 (16 : Int32))) &&& (63 : Int32))]) hX ok_Int_bitCount rfl ?_
  rintro rfl
  exact kx_iret hX hE ok_Int_bitCount (nx := 53) rfl rfl ⟨Nat.le_of_ble_eq_true rfl, Nat.le_of_ble_eq_true rfl⟩
def L_Sets_findJoinings_76 (x2 : Int32) (x3 : Int32) (x4 : Int32) (x5 : Int32) : Nat → Int32 → Int32 → HI → Option (HI)
  | 0, _, _, _ => none
  | f + 1, x6, x7, I => if x7 ≤ (0 : Int32) then (some I) else (grd (bnd x6 256) (if (I 71 x6.toNatClampNeg) = (0 : Int32) then (L_Sets_findJoinings_76 x2 x3 x4 x5 f ((x6 - (1 : Int32)) &&& x5) (x7 + (-1 : Int32)) I) else (lt (x3 &&& ((x6 ||| ((1 : Int32) <<< (x4 &&& (31 : Int32)))) ^^^ (-1 : Int32))) fun y4 => grd (bnd x3 256) (grd (bnd y4 256) (lt (xu I 69 x3.toNatClampNeg ((I 69 x3.toNatClampNeg) + (I 69 y4.toNatClampNeg))) fun J7 => lt (xu J7 70 x3.toNatClampNeg (mmin (J7 70 x3.toNatClampNeg) ((J7 70 y4.toNatClampNeg) + (1 : Int32)))) fun J8 => L_Sets_findJoinings_76 x2 x3 x4 x5 f ((x6 - (1 : Int32)) &&& x5) (x7 + (-1 : Int32)) J8)))))
theorem s_L_Sets_findJoinings_76 {G : xG} {X : xC} {d : Nat} (hd : 4 ≤ d) (hX : xAmb G X m_Sets_findJoinings d 0 0)  (C : HC) (x2 : Int32) (x3 : Int32) (x4 : Int32) (x5 : Int32) : ∀ (f : Nat) (x6 : Int32) (x7 : Int32) (I : HI) (r : HI), (kW G X m_Sets_findJoinings C r 0 0 159 [.ref 63, .null, .int x2, .int x3, .null, .null, .null, .null, .null] []) → L_Sets_findJoinings_76 x2 x3 x4 x5 f x6 x7 I = some r → kW G X m_Sets_findJoinings C I 0 0 76 [.ref 63, .null, .int x2, .int x3, .int x4, .int x5, .int x6, .int x7, .null] [] := by
  intro f
  induction f with
  | zero => intro x6 x7 I r hk h; rw [L_Sets_findJoinings_76] at h; cases h
  | succ f ih =>
    intro x6 x7 I r hk
    rw [L_Sets_findJoinings_76]
    refine kx_go 2 (pc' := if x7 ≤ (0 : Int32) then 159 else 81) (lv' := [.ref 63, .null, .int x2, .int x3, .int x4, .int x5, .int x6, .int x7, .null]) (st' := []) hX ok_Sets_findJoinings rfl ?_
    refine kx_ite (fun c1 => ?_) (fun c1 => ?_)
    · refine kx_weak (lv' := [.ref 63, .null, .int x2, .int x3, .null, .null, .null, .null, .null]) (by simp [xsub]) ?_
      intro h; have h := Option.some.inj h; subst h
      exact hk
    · refine kx_go 1 (pc' := 82) (lv' := [.ref 63, .null, .int x2, .int x3, .int x4, .int x5, .int x6, .int x7, .null]) (st' := [.ref 63]) hX ok_Sets_findJoinings rfl ?_
      refine kx_getp hX ok_Sets_findJoinings rfl (q := 71) (nx := 85) rfl ?_
      refine kx_go 1 (pc' := 87) (lv' := [.ref 63, .null, .int x2, .int x3, .int x4, .int x5, .int x6, .int x7, .null]) (st' := [.int x6, .ref 71]) hX ok_Sets_findJoinings rfl ?_
      refine kx_bald hX ok_Sets_findJoinings (w := 256) (nx := 88) rfl (fun b2 => ?_)
      refine kx_go 1 (pc' := if (I 71 x6.toNatClampNeg) = (0 : Int32) then 144 else 91) (lv' := [.ref 63, .null, .int x2, .int x3, .int x4, .int x5, .int x6, .int x7, .null]) (st' := []) hX ok_Sets_findJoinings rfl ?_
      refine kx_ite (fun c3 => ?_) (fun c3 => ?_)
      · refine kx_go 8 (pc' := 76) (lv' := [.ref 63, .null, .int x2, .int x3, .int x4, .int x5, .int ((x6 - (1 : Int32)) &&& x5), .int (x7 + (-1 : Int32)), .null]) (st' := []) hX ok_Sets_findJoinings rfl ?_
        exact fun h => ih ((x6 - (1 : Int32)) &&& x5) (x7 + (-1 : Int32)) I r hk h
      · refine kx_go 10 (pc' := 104) (lv' := [.ref 63, .null, .int x2, .int x3, .int x4, .int x5, .int x6, .int x7, .int (x3 &&& ((x6 ||| ((1 : Int32) <<< (x4 &&& (31 : Int32)))) ^^^ (-1 : Int32)))]) (st' := []) hX ok_Sets_findJoinings rfl ?_
        refine kx_lt (Q := fun y4 => kW G X m_Sets_findJoinings C I 0 0 104 [.ref 63, .null, .int x2, .int x3, .int x4, .int x5, .int x6, .int x7, .int y4] []) (fun y4 ey4 => ?_)
        refine kx_go 1 (pc' := 105) (lv' := [.ref 63, .null, .int x2, .int x3, .int x4, .int x5, .int x6, .int x7, .int y4]) (st' := [.ref 63]) hX ok_Sets_findJoinings rfl ?_
        refine kx_getp hX ok_Sets_findJoinings rfl (q := 69) (nx := 108) rfl ?_
        refine kx_go 2 (pc' := 110) (lv' := [.ref 63, .null, .int x2, .int x3, .int x4, .int x5, .int x6, .int x7, .int y4]) (st' := [.int x3, .ref 69, .int x3, .ref 69]) hX ok_Sets_findJoinings rfl ?_
        refine kx_iald hX ok_Sets_findJoinings (w := 256) (nx := 111) rfl (fun b5 => ?_)
        refine kx_go 1 (pc' := 112) (lv' := [.ref 63, .null, .int x2, .int x3, .int x4, .int x5, .int x6, .int x7, .int y4]) (st' := [.ref 63, .int (I 69 x3.toNatClampNeg), .int x3, .ref 69]) hX ok_Sets_findJoinings rfl ?_
        refine kx_getp hX ok_Sets_findJoinings rfl (q := 69) (nx := 115) rfl ?_
        refine kx_go 1 (pc' := 117) (lv' := [.ref 63, .null, .int x2, .int x3, .int x4, .int x5, .int x6, .int x7, .int y4]) (st' := [.int y4, .ref 69, .int (I 69 x3.toNatClampNeg), .int x3, .ref 69]) hX ok_Sets_findJoinings rfl ?_
        refine kx_iald hX ok_Sets_findJoinings (w := 256) (nx := 118) rfl (fun b6 => ?_)
        refine kx_go 1 (pc' := 119) (lv' := [.ref 63, .null, .int x2, .int x3, .int x4, .int x5, .int x6, .int x7, .int y4]) (st' := [.int ((I 69 x3.toNatClampNeg) + (I 69 y4.toNatClampNeg)), .int x3, .ref 69]) hX ok_Sets_findJoinings rfl ?_
        refine kx_iastc hX ok_Sets_findJoinings (w := 256) (nx := 120) rfl b5 (k := x3.toNatClampNeg) rfl ?_
        refine kx_lt (Q := fun J7 => kW G X m_Sets_findJoinings C J7 0 0 120 [.ref 63, .null, .int x2, .int x3, .int x4, .int x5, .int x6, .int x7, .int y4] []) (fun J7 eJ7 => ?_)
        refine kx_go 1 (pc' := 121) (lv' := [.ref 63, .null, .int x2, .int x3, .int x4, .int x5, .int x6, .int x7, .int y4]) (st' := [.ref 63]) hX ok_Sets_findJoinings rfl ?_
        refine kx_getp hX ok_Sets_findJoinings rfl (q := 70) (nx := 124) rfl ?_
        refine kx_go 2 (pc' := 126) (lv' := [.ref 63, .null, .int x2, .int x3, .int x4, .int x5, .int x6, .int x7, .int y4]) (st' := [.ref 63, .int x3, .ref 70]) hX ok_Sets_findJoinings rfl ?_
        refine kx_getp hX ok_Sets_findJoinings rfl (q := 70) (nx := 129) rfl ?_
        refine kx_go 1 (pc' := 130) (lv' := [.ref 63, .null, .int x2, .int x3, .int x4, .int x5, .int x6, .int x7, .int y4]) (st' := [.int x3, .ref 70, .int x3, .ref 70]) hX ok_Sets_findJoinings rfl ?_
        refine kx_ialdc hX ok_Sets_findJoinings (w := 256) (nx := 131) rfl b5 (k := x3.toNatClampNeg) rfl ?_
        refine kx_go 1 (pc' := 132) (lv' := [.ref 63, .null, .int x2, .int x3, .int x4, .int x5, .int x6, .int x7, .int y4]) (st' := [.ref 63, .int (J7 70 x3.toNatClampNeg), .int x3, .ref 70]) hX ok_Sets_findJoinings rfl ?_
        refine kx_getp hX ok_Sets_findJoinings rfl (q := 70) (nx := 135) rfl ?_
        refine kx_go 1 (pc' := 137) (lv' := [.ref 63, .null, .int x2, .int x3, .int x4, .int x5, .int x6, .int x7, .int y4]) (st' := [.int y4, .ref 70, .int (J7 70 x3.toNatClampNeg), .int x3, .ref 70]) hX ok_Sets_findJoinings rfl ?_
        refine kx_ialdc hX ok_Sets_findJoinings (w := 256) (nx := 138) rfl b6 (k := y4.toNatClampNeg) rfl ?_
        refine kx_go 2 (pc' := 140) (lv' := [.ref 63, .null, .int x2, .int x3, .int x4, .int x5, .int x6, .int x7, .int y4]) (st' := [.int ((J7 70 y4.toNatClampNeg) + (1 : Int32)), .int (J7 70 x3.toNatClampNeg), .int x3, .ref 70]) hX ok_Sets_findJoinings rfl ?_
        refine kx_min (d := d) (by omega) ⟨Nat.le_of_ble_eq_true rfl, Nat.le_of_ble_eq_true rfl⟩ hX ok_Sets_findJoinings (nx := 143) rfl l_Sets_79 (Nat.le_of_ble_eq_true rfl) ?_
        refine kx_iastc hX ok_Sets_findJoinings (w := 256) (nx := 144) rfl b5 (k := x3.toNatClampNeg) rfl ?_
        refine kx_lt (Q := fun J8 => kW G X m_Sets_findJoinings C J8 0 0 144 [.ref 63, .null, .int x2, .int x3, .int x4, .int x5, .int x6, .int x7, .int y4] []) (fun J8 eJ8 => ?_)
        refine kx_go 8 (pc' := 76) (lv' := [.ref 63, .null, .int x2, .int x3, .int x4, .int x5, .int ((x6 - (1 : Int32)) &&& x5), .int (x7 + (-1 : Int32)), .int y4]) (st' := []) hX ok_Sets_findJoinings rfl ?_
        refine kx_weak (lv' := [.ref 63, .null, .int x2, .int x3, .int x4, .int x5, .int ((x6 - (1 : Int32)) &&& x5), .int (x7 + (-1 : Int32)), .null]) (by simp [xsub]) ?_
        exact fun h => ih ((x6 - (1 : Int32)) &&& x5) (x7 + (-1 : Int32)) J8 r hk h
def L_Sets_findJoinings_26 (x2 : Int32) : Nat → Int32 → HI → Option (HI)
  | 0, _, _ => none
  | f + 1, x3, I => if x2 < x3 then (some I) else (grd (bnd x3 256) (lt (xu I 69 x3.toNatClampNeg (0 : Int32)) fun J3 => lt (xu J3 70 x3.toNatClampNeg (1000000 : Int32)) fun J4 => Option.bind (M_Sets_lowestOf J4 x3) fun p5 => grd (bnd p5 8) (lt ((1 : Int32) <<< ((M_Int_bitCount (x3 &&& (J4 66 p5.toNatClampNeg))) &&& (31 : Int32))) fun y7 => Option.bind (L_Sets_findJoinings_76 x2 x3 p5 (x3 &&& (J4 66 p5.toNatClampNeg)) 1000 (x3 &&& (J4 66 p5.toNatClampNeg)) y7 J4) fun p8 => L_Sets_findJoinings_26 x2 f (x3 + (1 : Int32)) p8)))
theorem s_L_Sets_findJoinings_26 {G : xG} {X : xC} {d : Nat} (hd : 4 ≤ d) (hX : xAmb G X m_Sets_findJoinings d 0 0)  (C : HC) (x2 : Int32) : ∀ (f : Nat) (x3 : Int32) (I : HI) (r : HI), (kW G X m_Sets_findJoinings C r 0 0 165 [.null, .null, .null, .null, .null, .null, .null, .null, .null] []) → L_Sets_findJoinings_26 x2 f x3 I = some r → kW G X m_Sets_findJoinings C I 0 0 26 [.ref 63, .null, .int x2, .int x3, .null, .null, .null, .null, .null] [] := by
  intro f
  induction f with
  | zero => intro x3 I r hk h; rw [L_Sets_findJoinings_26] at h; cases h
  | succ f ih =>
    intro x3 I r hk
    rw [L_Sets_findJoinings_26]
    refine kx_go 3 (pc' := if x2 < x3 then 165 else 31) (lv' := [.ref 63, .null, .int x2, .int x3, .null, .null, .null, .null, .null]) (st' := []) hX ok_Sets_findJoinings rfl ?_
    refine kx_ite (fun c1 => ?_) (fun c1 => ?_)
    · refine kx_weak (lv' := [.null, .null, .null, .null, .null, .null, .null, .null, .null]) (by simp [xsub]) ?_
      intro h; have h := Option.some.inj h; subst h
      exact hk
    · refine kx_go 1 (pc' := 32) (lv' := [.ref 63, .null, .int x2, .int x3, .null, .null, .null, .null, .null]) (st' := [.ref 63]) hX ok_Sets_findJoinings rfl ?_
      refine kx_getp hX ok_Sets_findJoinings rfl (q := 69) (nx := 35) rfl ?_
      refine kx_go 2 (pc' := 37) (lv' := [.ref 63, .null, .int x2, .int x3, .null, .null, .null, .null, .null]) (st' := [.int (0 : Int32), .int x3, .ref 69]) hX ok_Sets_findJoinings rfl ?_
      refine kx_iast hX ok_Sets_findJoinings (w := 256) (nx := 38) rfl (fun b2 => ?_)
      refine kx_lt (Q := fun J3 => kW G X m_Sets_findJoinings C J3 0 0 38 [.ref 63, .null, .int x2, .int x3, .null, .null, .null, .null, .null] []) (fun J3 eJ3 => ?_)
      refine kx_go 1 (pc' := 39) (lv' := [.ref 63, .null, .int x2, .int x3, .null, .null, .null, .null, .null]) (st' := [.ref 63]) hX ok_Sets_findJoinings rfl ?_
      refine kx_getp hX ok_Sets_findJoinings rfl (q := 70) (nx := 42) rfl ?_
      refine kx_go 2 (pc' := 45) (lv' := [.ref 63, .null, .int x2, .int x3, .null, .null, .null, .null, .null]) (st' := [.int (1000000 : Int32), .int x3, .ref 70]) hX ok_Sets_findJoinings rfl ?_
      refine kx_iastc hX ok_Sets_findJoinings (w := 256) (nx := 46) rfl b2 (k := x3.toNatClampNeg) rfl ?_
      refine kx_lt (Q := fun J4 => kW G X m_Sets_findJoinings C J4 0 0 46 [.ref 63, .null, .int x2, .int x3, .null, .null, .null, .null, .null] []) (fun J4 eJ4 => ?_)
      refine kx_go 1 (pc' := 47) (lv' := [.ref 63, .null, .int x2, .int x3, .null, .null, .null, .null, .null]) (st' := [.int x3]) hX ok_Sets_findJoinings rfl ?_
      refine kx_bind (fun p5 hp5 => ?_)
      refine kx_S (as := [.int x3]) hX ok_Sets_findJoinings (nx := 50) rfl l_Sets_90 (fun _ => s_Sets_lowestOf (G := G) (d := 1) (Nat.le_refl _) C J4 x3 p5 hp5) (by omega) rfl (rest := []) rfl (Nat.le_of_ble_eq_true rfl) ⟨Nat.le_of_ble_eq_true rfl, Nat.le_of_ble_eq_true rfl⟩ ?_
      show _ → kW G X m_Sets_findJoinings C J4 0 0 50 [.ref 63, .null, .int x2, .int x3, .null, .null, .null, .null, .null] [.int p5]
      refine kx_go 3 (pc' := 54) (lv' := [.ref 63, .null, .int x2, .int x3, .int p5, .null, .null, .null, .null]) (st' := [.ref 63, .int x3]) hX ok_Sets_findJoinings rfl ?_
      refine kx_getp hX ok_Sets_findJoinings rfl (q := 66) (nx := 57) rfl ?_
      refine kx_go 1 (pc' := 59) (lv' := [.ref 63, .null, .int x2, .int x3, .int p5, .null, .null, .null, .null]) (st' := [.int p5, .ref 66, .int x3]) hX ok_Sets_findJoinings rfl ?_
      refine kx_iald hX ok_Sets_findJoinings (w := 8) (nx := 60) rfl (fun b6 => ?_)
      refine kx_go 6 (pc' := 70) (lv' := [.ref 63, .null, .int x2, .int x3, .int p5, .int (x3 &&& (J4 66 p5.toNatClampNeg)), .int (x3 &&& (J4 66 p5.toNatClampNeg)), .null, .null]) (st' := [.int (x3 &&& (J4 66 p5.toNatClampNeg)), .int (1 : Int32)]) hX ok_Sets_findJoinings rfl ?_
      refine kx_S (as := [.int (x3 &&& (J4 66 p5.toNatClampNeg))]) hX ok_Sets_findJoinings (nx := 73) rfl l_Sets_96 (fun _ => s_Int_bitCount (G := G) (d := 0) (Nat.le_refl _) C J4 (x3 &&& (J4 66 p5.toNatClampNeg)) _ rfl) (by omega) rfl (rest := [.int (1 : Int32)]) rfl (Nat.le_of_ble_eq_true rfl) ⟨Nat.le_of_ble_eq_true rfl, Nat.le_of_ble_eq_true rfl⟩ ?_
      show _ → kW G X m_Sets_findJoinings C J4 0 0 73 [.ref 63, .null, .int x2, .int x3, .int p5, .int (x3 &&& (J4 66 p5.toNatClampNeg)), .int (x3 &&& (J4 66 p5.toNatClampNeg)), .null, .null] [.int (M_Int_bitCount (x3 &&& (J4 66 p5.toNatClampNeg))), .int (1 : Int32)]
      refine kx_go 2 (pc' := 76) (lv' := [.ref 63, .null, .int x2, .int x3, .int p5, .int (x3 &&& (J4 66 p5.toNatClampNeg)), .int (x3 &&& (J4 66 p5.toNatClampNeg)), .int ((1 : Int32) <<< ((M_Int_bitCount (x3 &&& (J4 66 p5.toNatClampNeg))) &&& (31 : Int32))), .null]) (st' := []) hX ok_Sets_findJoinings rfl ?_
      refine kx_lt (Q := fun y7 => kW G X m_Sets_findJoinings C J4 0 0 76 [.ref 63, .null, .int x2, .int x3, .int p5, .int (x3 &&& (J4 66 p5.toNatClampNeg)), .int (x3 &&& (J4 66 p5.toNatClampNeg)), .int y7, .null] []) (fun y7 ey7 => ?_)
      refine kx_bind (fun p8 hp8 => ?_)
      refine kx_via (fun hk => s_L_Sets_findJoinings_76 (G := G) (X := X) (by omega) hX C x2 x3 p5 (x3 &&& (J4 66 p5.toNatClampNeg)) 1000 (x3 &&& (J4 66 p5.toNatClampNeg)) y7 J4 p8 hk hp8) ?_
      refine kx_go 2 (pc' := 26) (lv' := [.ref 63, .null, .int x2, .int (x3 + (1 : Int32)), .null, .null, .null, .null, .null]) (st' := []) hX ok_Sets_findJoinings rfl ?_
      exact fun h => ih (x3 + (1 : Int32)) p8 r hk h
def M_Sets_findJoinings (C : HC) (I : HI) : Option (HI) := Option.bind (M_Sets_findBeasts C I) fun p1 => lt (xu p1 69 0 (1 : Int32)) fun J2 => lt (xu J2 70 0 (0 : Int32)) fun J3 => Option.bind (L_Sets_findJoinings_26 (M_Sets_allOf p1) 1000 (1 : Int32) J3) fun p4 => some p4
theorem s_Sets_findJoinings {G : xG} {d : Nat} (hd : 4 ≤ d) (C : HC) (I : HI)   (r : HI) : M_Sets_findJoinings C I = some r → kM G d m_Sets_findJoinings [.ref 63, .ref 1] C I 0 0 none C r := by
  unfold M_Sets_findJoinings
  refine kM.of (by decide +kernel) (Nat.le_of_ble_eq_true rfl) (lv := [.ref 63, .ref 1, .null, .null, .null, .null, .null, .null, .null]) rfl (fun X hX hE => ?_)
  refine kx_go 2 (pc' := 2) (lv' := [.ref 63, .ref 1, .null, .null, .null, .null, .null, .null, .null]) (st' := [.ref 1, .ref 63]) hX ok_Sets_findJoinings rfl ?_
  refine kx_bind (fun p1 hp1 => ?_)
  refine kx_V (r := 63) (as := [.ref 1]) (by decide) hX ok_Sets_findJoinings (nx := 5) rfl l_Sets_93 (by decide) rfl (fun _ => s_Sets_findBeasts (G := G) (d := 3) (Nat.le_refl _) C I  p1 hp1) (by omega) rfl (rest := []) rfl (Nat.le_of_ble_eq_true rfl) ⟨Nat.le_of_ble_eq_true rfl, Nat.le_of_ble_eq_true rfl⟩ ?_
  show _ → kW G X m_Sets_findJoinings C p1 0 0 5 [.ref 63, .ref 1, .null, .null, .null, .null, .null, .null, .null] []
  refine kx_go 1 (pc' := 6) (lv' := [.ref 63, .ref 1, .null, .null, .null, .null, .null, .null, .null]) (st' := [.ref 1]) hX ok_Sets_findJoinings rfl ?_
  refine kx_S (as := [.ref 1]) hX ok_Sets_findJoinings (nx := 9) rfl l_Sets_60 (fun _ => s_Sets_allOf (G := G) (d := 0) (Nat.le_refl _) C p1  _ rfl) (by omega) rfl (rest := []) rfl (Nat.le_of_ble_eq_true rfl) ⟨Nat.le_of_ble_eq_true rfl, Nat.le_of_ble_eq_true rfl⟩ ?_
  show _ → kW G X m_Sets_findJoinings C p1 0 0 9 [.ref 63, .ref 1, .null, .null, .null, .null, .null, .null, .null] [.int (M_Sets_allOf p1)]
  refine kx_go 2 (pc' := 11) (lv' := [.ref 63, .ref 1, .int (M_Sets_allOf p1), .null, .null, .null, .null, .null, .null]) (st' := [.ref 63]) hX ok_Sets_findJoinings rfl ?_
  refine kx_getp hX ok_Sets_findJoinings rfl (q := 69) (nx := 14) rfl ?_
  refine kx_go 2 (pc' := 16) (lv' := [.ref 63, .ref 1, .int (M_Sets_allOf p1), .null, .null, .null, .null, .null, .null]) (st' := [.int (1 : Int32), .int (0 : Int32), .ref 69]) hX ok_Sets_findJoinings rfl ?_
  refine kx_iastc hX ok_Sets_findJoinings (w := 256) (nx := 17) rfl rfl (k := 0) rfl ?_
  refine kx_lt (Q := fun J2 => kW G X m_Sets_findJoinings C J2 0 0 17 [.ref 63, .ref 1, .int (M_Sets_allOf p1), .null, .null, .null, .null, .null, .null] []) (fun J2 eJ2 => ?_)
  refine kx_go 1 (pc' := 18) (lv' := [.ref 63, .ref 1, .int (M_Sets_allOf p1), .null, .null, .null, .null, .null, .null]) (st' := [.ref 63]) hX ok_Sets_findJoinings rfl ?_
  refine kx_getp hX ok_Sets_findJoinings rfl (q := 70) (nx := 21) rfl ?_
  refine kx_go 2 (pc' := 23) (lv' := [.ref 63, .ref 1, .int (M_Sets_allOf p1), .null, .null, .null, .null, .null, .null]) (st' := [.int (0 : Int32), .int (0 : Int32), .ref 70]) hX ok_Sets_findJoinings rfl ?_
  refine kx_iastc hX ok_Sets_findJoinings (w := 256) (nx := 24) rfl rfl (k := 0) rfl ?_
  refine kx_lt (Q := fun J3 => kW G X m_Sets_findJoinings C J3 0 0 24 [.ref 63, .ref 1, .int (M_Sets_allOf p1), .null, .null, .null, .null, .null, .null] []) (fun J3 eJ3 => ?_)
  refine kx_go 2 (pc' := 26) (lv' := [.ref 63, .ref 1, .int (M_Sets_allOf p1), .int (1 : Int32), .null, .null, .null, .null, .null]) (st' := []) hX ok_Sets_findJoinings rfl ?_
  refine kx_weak (lv' := [.ref 63, .null, .int (M_Sets_allOf p1), .int (1 : Int32), .null, .null, .null, .null, .null]) (by simp [xsub]) ?_
  refine kx_bind (fun p4 hp4 => ?_)
  refine kx_via (fun hk => s_L_Sets_findJoinings_26 (G := G) (X := X) (by omega) hX C (M_Sets_allOf p1) 1000 (1 : Int32) J3 p4 hk hp4) ?_
  intro h; have h := Option.some.inj h; subst h
  exact kx_vret hX hE ok_Sets_findJoinings (nx := 166) rfl rfl ⟨Nat.le_of_ble_eq_true rfl, Nat.le_of_ble_eq_true rfl⟩
def M_Sets_joiningCount (I : HI) : Option (Int32) := grd (bnd (M_Sets_allOf I) 256) (some (I 69 (M_Sets_allOf I).toNatClampNeg))
theorem s_Sets_joiningCount {G : xG} {d : Nat} (hd : 1 ≤ d) (C : HC) (I : HI)   (r : Int32) : M_Sets_joiningCount I = some r → kM G d m_Sets_joiningCount [.ref 63, .ref 1] C I 0 0 (some (.int r)) C I := by
  unfold M_Sets_joiningCount
  refine kM.of (by decide +kernel) (Nat.le_of_ble_eq_true rfl) (lv := [.ref 63, .ref 1]) rfl (fun X hX hE => ?_)
  refine kx_go 1 (pc' := 1) (lv' := [.ref 63, .ref 1]) (st' := [.ref 63]) hX ok_Sets_joiningCount rfl ?_
  refine kx_getp hX ok_Sets_joiningCount rfl (q := 69) (nx := 4) rfl ?_
  refine kx_go 1 (pc' := 5) (lv' := [.ref 63, .ref 1]) (st' := [.ref 1, .ref 69]) hX ok_Sets_joiningCount rfl ?_
  refine kx_S (as := [.ref 1]) hX ok_Sets_joiningCount (nx := 8) rfl l_Sets_60 (fun _ => s_Sets_allOf (G := G) (d := 0) (Nat.le_refl _) C I  _ rfl) (by omega) rfl (rest := [.ref 69]) rfl (Nat.le_of_ble_eq_true rfl) ⟨Nat.le_of_ble_eq_true rfl, Nat.le_of_ble_eq_true rfl⟩ ?_
  show _ → kW G X m_Sets_joiningCount C I 0 0 8 [.ref 63, .ref 1] [.int (M_Sets_allOf I), .ref 69]
  refine kx_iald hX ok_Sets_joiningCount (w := 256) (nx := 9) rfl (fun b1 => ?_)
  intro h; have h := Option.some.inj h; subst h
  exact kx_iret hX hE ok_Sets_joiningCount (nx := 10) rfl rfl ⟨Nat.le_of_ble_eq_true rfl, Nat.le_of_ble_eq_true rfl⟩
def M_Sets_fewestBeasts (I : HI) : Option (Int32) := grd (bnd (M_Sets_allOf I) 256) (some (I 70 (M_Sets_allOf I).toNatClampNeg))
theorem s_Sets_fewestBeasts {G : xG} {d : Nat} (hd : 1 ≤ d) (C : HC) (I : HI)   (r : Int32) : M_Sets_fewestBeasts I = some r → kM G d m_Sets_fewestBeasts [.ref 63, .ref 1] C I 0 0 (some (.int r)) C I := by
  unfold M_Sets_fewestBeasts
  refine kM.of (by decide +kernel) (Nat.le_of_ble_eq_true rfl) (lv := [.ref 63, .ref 1]) rfl (fun X hX hE => ?_)
  refine kx_go 1 (pc' := 1) (lv' := [.ref 63, .ref 1]) (st' := [.ref 63]) hX ok_Sets_fewestBeasts rfl ?_
  refine kx_getp hX ok_Sets_fewestBeasts rfl (q := 70) (nx := 4) rfl ?_
  refine kx_go 1 (pc' := 5) (lv' := [.ref 63, .ref 1]) (st' := [.ref 1, .ref 70]) hX ok_Sets_fewestBeasts rfl ?_
  refine kx_S (as := [.ref 1]) hX ok_Sets_fewestBeasts (nx := 8) rfl l_Sets_60 (fun _ => s_Sets_allOf (G := G) (d := 0) (Nat.le_refl _) C I  _ rfl) (by omega) rfl (rest := [.ref 70]) rfl (Nat.le_of_ble_eq_true rfl) ⟨Nat.le_of_ble_eq_true rfl, Nat.le_of_ble_eq_true rfl⟩ ?_
  show _ → kW G X m_Sets_fewestBeasts C I 0 0 8 [.ref 63, .ref 1] [.int (M_Sets_allOf I), .ref 70]
  refine kx_iald hX ok_Sets_fewestBeasts (w := 256) (nx := 9) rfl (fun b1 => ?_)
  intro h; have h := Option.some.inj h; subst h
  exact kx_iret hX hE ok_Sets_fewestBeasts (nx := 10) rfl rfl ⟨Nat.le_of_ble_eq_true rfl, Nat.le_of_ble_eq_true rfl⟩
def M_H_joinings (C : HC) (I : HI) (x1 : Int32) : Option (Int32 × HI) := if (M_Wall_within x1 (1 : Int32)) = (0 : Int32) then (Option.bind (M_H_error I (1 : Int32)) fun p2 => some (p2.1, p2.2)) else (Option.bind (M_Sets_findJoinings C I) fun p3 => if x1 = (0 : Int32) then (Option.bind (M_Sets_joiningCount p3) fun p5 => some (p5, p3)) else (Option.bind (M_Sets_fewestBeasts p3) fun p6 => some (p6, p3)))
theorem s_H_joinings {G : xG} {d : Nat} (hd : 5 ≤ d) (C : HC) (I : HI) (x1 : Int32)  (r : Int32 × HI) : M_H_joinings C I x1 = some r → kM G d m_H_joinings [.ref 0, .int x1] C I 0 0 (some (.int r.1)) C r.2 := by
  unfold M_H_joinings
  refine kM.of (by decide +kernel) (Nat.le_of_ble_eq_true rfl) (lv := [.ref 0, .int x1]) rfl (fun X hX hE => ?_)
  refine kx_go 2 (pc' := 2) (lv' := [.ref 0, .int x1]) (st' := [.int (1 : Int32), .int x1]) hX ok_H_joinings rfl ?_
  refine kx_S (as := [.int x1, .int (1 : Int32)]) hX ok_H_joinings (nx := 5) rfl l_H_56 (fun _ => s_Wall_within (G := G) (d := 0) (Nat.le_refl _) C I x1 (1 : Int32) _ rfl) (by omega) rfl (rest := []) rfl (Nat.le_of_ble_eq_true rfl) ⟨Nat.le_of_ble_eq_true rfl, Nat.le_of_ble_eq_true rfl⟩ ?_
  show _ → kW G X m_H_joinings C I 0 0 5 [.ref 0, .int x1] [.int (M_Wall_within x1 (1 : Int32))]
  refine kx_go 1 (pc' := if (M_Wall_within x1 (1 : Int32)) = (0 : Int32) then 8 else 14) (lv' := [.ref 0, .int x1]) (st' := []) hX ok_H_joinings rfl ?_
  refine kx_ite (fun c1 => ?_) (fun c1 => ?_)
  · refine kx_go 2 (pc' := 10) (lv' := [.ref 0, .int x1]) (st' := [.int (1 : Int32), .ref 0]) hX ok_H_joinings rfl ?_
    refine kx_bind (fun p2 hp2 => ?_)
    refine kx_V (r := 0) (as := [.int (1 : Int32)]) (by decide) hX ok_H_joinings (nx := 13) rfl l_H_60 (by decide) rfl (fun _ => s_H_error (G := G) (d := 0) (Nat.le_refl _) C I (1 : Int32) p2 hp2) (by omega) rfl (rest := []) rfl (Nat.le_of_ble_eq_true rfl) ⟨Nat.le_of_ble_eq_true rfl, Nat.le_of_ble_eq_true rfl⟩ ?_
    show _ → kW G X m_H_joinings C p2.2 0 0 13 [.ref 0, .int x1] [.int p2.1]
    intro h; have h := Option.some.inj h; subst h
    exact kx_iret hX hE ok_H_joinings (nx := 14) rfl rfl ⟨Nat.le_of_ble_eq_true rfl, Nat.le_of_ble_eq_true rfl⟩
  · refine kx_go 1 (pc' := 15) (lv' := [.ref 0, .int x1]) (st' := [.ref 0]) hX ok_H_joinings rfl ?_
    refine kx_getp hX ok_H_joinings rfl (q := 63) (nx := 18) rfl ?_
    refine kx_go 1 (pc' := 19) (lv' := [.ref 0, .int x1]) (st' := [.ref 0, .ref 63]) hX ok_H_joinings rfl ?_
    refine kx_getp hX ok_H_joinings rfl (q := 1) (nx := 22) rfl ?_
    refine kx_bind (fun p3 hp3 => ?_)
    refine kx_V (r := 63) (as := [.ref 1]) (by decide) hX ok_H_joinings (nx := 25) rfl l_H_204 (by decide) rfl (fun _ => s_Sets_findJoinings (G := G) (d := 4) (Nat.le_refl _) C I  p3 hp3) (by omega) rfl (rest := []) rfl (Nat.le_of_ble_eq_true rfl) ⟨Nat.le_of_ble_eq_true rfl, Nat.le_of_ble_eq_true rfl⟩ ?_
    show _ → kW G X m_H_joinings C p3 0 0 25 [.ref 0, .int x1] []
    refine kx_go 2 (pc' := if x1 = (0 : Int32) then 29 else 43) (lv' := [.ref 0, .int x1]) (st' := []) hX ok_H_joinings rfl ?_
    refine kx_ite (fun c4 => ?_) (fun c4 => ?_)
    · refine kx_go 1 (pc' := 30) (lv' := [.ref 0, .int x1]) (st' := [.ref 0]) hX ok_H_joinings rfl ?_
      refine kx_getp hX ok_H_joinings rfl (q := 63) (nx := 33) rfl ?_
      refine kx_go 1 (pc' := 34) (lv' := [.ref 0, .int x1]) (st' := [.ref 0, .ref 63]) hX ok_H_joinings rfl ?_
      refine kx_getp hX ok_H_joinings rfl (q := 1) (nx := 37) rfl ?_
      refine kx_bind (fun p5 hp5 => ?_)
      refine kx_V (r := 63) (as := [.ref 1]) (by decide) hX ok_H_joinings (nx := 40) rfl l_H_207 (by decide) rfl (fun _ => s_Sets_joiningCount (G := G) (d := 1) (Nat.le_refl _) C p3  p5 hp5) (by omega) rfl (rest := []) rfl (Nat.le_of_ble_eq_true rfl) ⟨Nat.le_of_ble_eq_true rfl, Nat.le_of_ble_eq_true rfl⟩ ?_
      show _ → kW G X m_H_joinings C p3 0 0 40 [.ref 0, .int x1] [.int p5]
      refine kx_go 1 (pc' := 54) (lv' := [.ref 0, .int x1]) (st' := [.int p5]) hX ok_H_joinings rfl ?_
      intro h; have h := Option.some.inj h; subst h
      exact kx_iret hX hE ok_H_joinings (nx := 55) rfl rfl ⟨Nat.le_of_ble_eq_true rfl, Nat.le_of_ble_eq_true rfl⟩
    · refine kx_go 1 (pc' := 44) (lv' := [.ref 0, .int x1]) (st' := [.ref 0]) hX ok_H_joinings rfl ?_
      refine kx_getp hX ok_H_joinings rfl (q := 63) (nx := 47) rfl ?_
      refine kx_go 1 (pc' := 48) (lv' := [.ref 0, .int x1]) (st' := [.ref 0, .ref 63]) hX ok_H_joinings rfl ?_
      refine kx_getp hX ok_H_joinings rfl (q := 1) (nx := 51) rfl ?_
      refine kx_bind (fun p6 hp6 => ?_)
      refine kx_V (r := 63) (as := [.ref 1]) (by decide) hX ok_H_joinings (nx := 54) rfl l_H_210 (by decide) rfl (fun _ => s_Sets_fewestBeasts (G := G) (d := 1) (Nat.le_refl _) C p3  p6 hp6) (by omega) rfl (rest := []) rfl (Nat.le_of_ble_eq_true rfl) ⟨Nat.le_of_ble_eq_true rfl, Nat.le_of_ble_eq_true rfl⟩ ?_
      show _ → kW G X m_H_joinings C p3 0 0 54 [.ref 0, .int x1] [.int p6]
      intro h; have h := Option.some.inj h; subst h
      exact kx_iret hX hE ok_H_joinings (nx := 55) rfl rfl ⟨Nat.le_of_ble_eq_true rfl, Nat.le_of_ble_eq_true rfl⟩
def L_Sets_findAlike_2  : Nat → Int32 → HI → Option (HI)
  | 0, _, _ => none
  | f + 1, x2, I => if (4 : Int32) ≤ x2 then (some I) else (grd (bnd x2 4) (lt (xu I 68 x2.toNatClampNeg (0 : Int32)) fun J3 => L_Sets_findAlike_2 f (x2 + (1 : Int32)) J3))
theorem s_L_Sets_findAlike_2 {G : xG} {X : xC} {d : Nat} (hd : 1 ≤ d) (hX : xAmb G X m_Sets_findAlike d 0 0)  (C : HC) : ∀ (f : Nat) (x2 : Int32) (I : HI) (r : HI), (kW G X m_Sets_findAlike C r 0 0 20 [.ref 63, .ref 1, .null] []) → L_Sets_findAlike_2 f x2 I = some r → kW G X m_Sets_findAlike C I 0 0 2 [.ref 63, .ref 1, .int x2] [] := by
  intro f
  induction f with
  | zero => intro x2 I r hk h; rw [L_Sets_findAlike_2] at h; cases h
  | succ f ih =>
    intro x2 I r hk
    rw [L_Sets_findAlike_2]
    refine kx_go 3 (pc' := if (4 : Int32) ≤ x2 then 20 else 7) (lv' := [.ref 63, .ref 1, .int x2]) (st' := []) hX ok_Sets_findAlike rfl ?_
    refine kx_ite (fun c1 => ?_) (fun c1 => ?_)
    · refine kx_weak (lv' := [.ref 63, .ref 1, .null]) (by simp [xsub]) ?_
      intro h; have h := Option.some.inj h; subst h
      exact hk
    · refine kx_go 1 (pc' := 8) (lv' := [.ref 63, .ref 1, .int x2]) (st' := [.ref 63]) hX ok_Sets_findAlike rfl ?_
      refine kx_getp hX ok_Sets_findAlike rfl (q := 68) (nx := 11) rfl ?_
      refine kx_go 2 (pc' := 13) (lv' := [.ref 63, .ref 1, .int x2]) (st' := [.int (0 : Int32), .int x2, .ref 68]) hX ok_Sets_findAlike rfl ?_
      refine kx_iast hX ok_Sets_findAlike (w := 4) (nx := 14) rfl (fun b2 => ?_)
      refine kx_lt (Q := fun J3 => kW G X m_Sets_findAlike C J3 0 0 14 [.ref 63, .ref 1, .int x2] []) (fun J3 eJ3 => ?_)
      refine kx_go 2 (pc' := 2) (lv' := [.ref 63, .ref 1, .int (x2 + (1 : Int32))]) (st' := []) hX ok_Sets_findAlike rfl ?_
      exact fun h => ih (x2 + (1 : Int32)) J3 r hk h
def L_Sets_findAlike_22 (C : HC) : Nat → Int32 → HI → Option (HI)
  | 0, _, _ => none
  | f + 1, x2, I => if (I 1 1) ≤ x2 then (some I) else (grd (bnd x2 8 && gS C (hT C x2.toNatClampNeg)) (grd (bnd (M_Vstuff C (hT C x2.toNatClampNeg)) 4) (lt (xu I 68 (M_Vstuff C (hT C x2.toNatClampNeg)).toNatClampNeg ((I 68 (M_Vstuff C (hT C x2.toNatClampNeg)).toNatClampNeg) ||| ((1 : Int32) <<< (x2 &&& (31 : Int32))))) fun J4 => L_Sets_findAlike_22 C f (x2 + (1 : Int32)) J4)))
theorem s_L_Sets_findAlike_22 {G : xG} {X : xC} {d : Nat} (hd : 1 ≤ d) (hX : xAmb G X m_Sets_findAlike d 0 0)  (C : HC) : ∀ (f : Nat) (x2 : Int32) (I : HI) (r : HI), (kW G X m_Sets_findAlike C r 0 0 56 [.null, .null, .null] []) → L_Sets_findAlike_22 C f x2 I = some r → kW G X m_Sets_findAlike C I 0 0 22 [.ref 63, .ref 1, .int x2] [] := by
  intro f
  induction f with
  | zero => intro x2 I r hk h; rw [L_Sets_findAlike_22] at h; cases h
  | succ f ih =>
    intro x2 I r hk
    rw [L_Sets_findAlike_22]
    refine kx_go 2 (pc' := 24) (lv' := [.ref 63, .ref 1, .int x2]) (st' := [.ref 1, .int x2]) hX ok_Sets_findAlike rfl ?_
    refine kx_geti hX ok_Sets_findAlike rfl (k := 1) (nx := 27) rfl ?_
    refine kx_go 1 (pc' := if (I 1 1) ≤ x2 then 56 else 30) (lv' := [.ref 63, .ref 1, .int x2]) (st' := []) hX ok_Sets_findAlike rfl ?_
    refine kx_ite (fun c1 => ?_) (fun c1 => ?_)
    · refine kx_weak (lv' := [.null, .null, .null]) (by simp [xsub]) ?_
      intro h; have h := Option.some.inj h; subst h
      exact hk
    · refine kx_go 1 (pc' := 31) (lv' := [.ref 63, .ref 1, .int x2]) (st' := [.ref 63]) hX ok_Sets_findAlike rfl ?_
      refine kx_getp hX ok_Sets_findAlike rfl (q := 68) (nx := 34) rfl ?_
      refine kx_go 1 (pc' := 35) (lv' := [.ref 63, .ref 1, .int x2]) (st' := [.ref 1, .ref 68]) hX ok_Sets_findAlike rfl ?_
      refine kx_getp hX ok_Sets_findAlike rfl (q := 2) (nx := 38) rfl ?_
      refine kx_go 1 (pc' := 39) (lv' := [.ref 63, .ref 1, .int x2]) (st' := [.int x2, .ref 2, .ref 68]) hX ok_Sets_findAlike rfl ?_
      refine kx_aaT hX ok_Sets_findAlike (nx := 40) rfl (fun bhq2 hq2 => ?_)
      refine kx_U (as := []) hq2 hX ok_Sets_findAlike (nx := 43) rfl (l_Sets_108 (gS_k hq2)) (fun _ => s_Vstuff (G := G) (d := 0) (Nat.le_refl _) C I (hT C x2.toNatClampNeg) hq2 _ rfl) (by omega) rfl (rest := [.ref 68]) rfl (Nat.le_of_ble_eq_true rfl) ⟨Nat.le_of_ble_eq_true rfl, Nat.le_of_ble_eq_true rfl⟩ ?_
      show _ → kW G X m_Sets_findAlike C I 0 0 43 [.ref 63, .ref 1, .int x2] [.int (M_Vstuff C (hT C x2.toNatClampNeg)), .ref 68]
      refine kx_go 1 (pc' := 44) (lv' := [.ref 63, .ref 1, .int x2]) (st' := [.int (M_Vstuff C (hT C x2.toNatClampNeg)), .ref 68, .int (M_Vstuff C (hT C x2.toNatClampNeg)), .ref 68]) hX ok_Sets_findAlike rfl ?_
      refine kx_iald hX ok_Sets_findAlike (w := 4) (nx := 45) rfl (fun b3 => ?_)
      refine kx_go 4 (pc' := 49) (lv' := [.ref 63, .ref 1, .int x2]) (st' := [.int ((I 68 (M_Vstuff C (hT C x2.toNatClampNeg)).toNatClampNeg) ||| ((1 : Int32) <<< (x2 &&& (31 : Int32)))), .int (M_Vstuff C (hT C x2.toNatClampNeg)), .ref 68]) hX ok_Sets_findAlike rfl ?_
      refine kx_iastc hX ok_Sets_findAlike (w := 4) (nx := 50) rfl b3 (k := (M_Vstuff C (hT C x2.toNatClampNeg)).toNatClampNeg) rfl ?_
      refine kx_lt (Q := fun J4 => kW G X m_Sets_findAlike C J4 0 0 50 [.ref 63, .ref 1, .int x2] []) (fun J4 eJ4 => ?_)
      refine kx_go 2 (pc' := 22) (lv' := [.ref 63, .ref 1, .int (x2 + (1 : Int32))]) (st' := []) hX ok_Sets_findAlike rfl ?_
      exact fun h => ih (x2 + (1 : Int32)) J4 r hk h
def M_Sets_findAlike (C : HC) (I : HI) : Option (HI) := Option.bind (L_Sets_findAlike_2 1000 (0 : Int32) I) fun p1 => Option.bind (L_Sets_findAlike_22 C 1000 (0 : Int32) p1) fun p2 => some p2
theorem s_Sets_findAlike {G : xG} {d : Nat} (hd : 1 ≤ d) (C : HC) (I : HI)   (r : HI) : M_Sets_findAlike C I = some r → kM G d m_Sets_findAlike [.ref 63, .ref 1] C I 0 0 none C r := by
  unfold M_Sets_findAlike
  refine kM.of (by decide +kernel) (Nat.le_of_ble_eq_true rfl) (lv := [.ref 63, .ref 1, .null]) rfl (fun X hX hE => ?_)
  refine kx_go 2 (pc' := 2) (lv' := [.ref 63, .ref 1, .int (0 : Int32)]) (st' := []) hX ok_Sets_findAlike rfl ?_
  refine kx_bind (fun p1 hp1 => ?_)
  refine kx_via (fun hk => s_L_Sets_findAlike_2 (G := G) (X := X) (by omega) hX C 1000 (0 : Int32) I p1 hk hp1) ?_
  refine kx_go 2 (pc' := 22) (lv' := [.ref 63, .ref 1, .int (0 : Int32)]) (st' := []) hX ok_Sets_findAlike rfl ?_
  refine kx_bind (fun p2 hp2 => ?_)
  refine kx_via (fun hk => s_L_Sets_findAlike_22 (G := G) (X := X) (by omega) hX C 1000 (0 : Int32) p1 p2 hk hp2) ?_
  intro h; have h := Option.some.inj h; subst h
  exact kx_vret hX hE ok_Sets_findAlike (nx := 57) rfl rfl ⟨Nat.le_of_ble_eq_true rfl, Nat.le_of_ble_eq_true rfl⟩
def L_Sets_findTimes_52 (x3 : Int32) (x4 : Int32) : Nat → Int32 → HI → Option (HI)
  | 0, _, _ => none
  | f + 1, x5, I => if (4 : Int32) ≤ x5 then (some I) else (grd (bnd x5 4) (if (x4 &&& (I 68 x5.toNatClampNeg)) = (0 : Int32) then (L_Sets_findTimes_52 x3 x4 f (x5 + (1 : Int32)) I) else (grd (bnd x3 256) (grd (bnd (x3 ||| (x4 &&& (I 68 x5.toNatClampNeg))) 256) (lt (xu I 70 x3.toNatClampNeg (mmin (I 70 x3.toNatClampNeg) ((I 70 (x3 ||| (x4 &&& (I 68 x5.toNatClampNeg))).toNatClampNeg) + (1 : Int32)))) fun J6 => L_Sets_findTimes_52 x3 x4 f (x5 + (1 : Int32)) J6)))))
theorem s_L_Sets_findTimes_52 {G : xG} {X : xC} {d : Nat} (hd : 2 ≤ d) (hX : xAmb G X m_Sets_findTimes d 0 0)  (C : HC) (x3 : Int32) (x4 : Int32) : ∀ (f : Nat) (x5 : Int32) (I : HI) (r : HI), (kW G X m_Sets_findTimes C r 0 0 107 [.ref 63, .ref 1, .null, .int x3, .null, .null, .null] []) → L_Sets_findTimes_52 x3 x4 f x5 I = some r → kW G X m_Sets_findTimes C I 0 0 52 [.ref 63, .ref 1, .null, .int x3, .int x4, .int x5, .null] [] := by
  intro f
  induction f with
  | zero => intro x5 I r hk h; rw [L_Sets_findTimes_52] at h; cases h
  | succ f ih =>
    intro x5 I r hk
    rw [L_Sets_findTimes_52]
    refine kx_go 3 (pc' := if (4 : Int32) ≤ x5 then 107 else 58) (lv' := [.ref 63, .ref 1, .null, .int x3, .int x4, .int x5, .null]) (st' := []) hX ok_Sets_findTimes rfl ?_
    refine kx_ite (fun c1 => ?_) (fun c1 => ?_)
    · refine kx_weak (lv' := [.ref 63, .ref 1, .null, .int x3, .null, .null, .null]) (by simp [xsub]) ?_
      intro h; have h := Option.some.inj h; subst h
      exact hk
    · refine kx_go 2 (pc' := 61) (lv' := [.ref 63, .ref 1, .null, .int x3, .int x4, .int x5, .null]) (st' := [.ref 63, .int x4]) hX ok_Sets_findTimes rfl ?_
      refine kx_getp hX ok_Sets_findTimes rfl (q := 68) (nx := 64) rfl ?_
      refine kx_go 1 (pc' := 66) (lv' := [.ref 63, .ref 1, .null, .int x3, .int x4, .int x5, .null]) (st' := [.int x5, .ref 68, .int x4]) hX ok_Sets_findTimes rfl ?_
      refine kx_iald hX ok_Sets_findTimes (w := 4) (nx := 67) rfl (fun b2 => ?_)
      refine kx_go 4 (pc' := if (x4 &&& (I 68 x5.toNatClampNeg)) = (0 : Int32) then 101 else 75) (lv' := [.ref 63, .ref 1, .null, .int x3, .int x4, .int x5, .int (x4 &&& (I 68 x5.toNatClampNeg))]) (st' := []) hX ok_Sets_findTimes rfl ?_
      refine kx_ite (fun c3 => ?_) (fun c3 => ?_)
      · refine kx_go 2 (pc' := 52) (lv' := [.ref 63, .ref 1, .null, .int x3, .int x4, .int (x5 + (1 : Int32)), .int (x4 &&& (I 68 x5.toNatClampNeg))]) (st' := []) hX ok_Sets_findTimes rfl ?_
        refine kx_weak (lv' := [.ref 63, .ref 1, .null, .int x3, .int x4, .int (x5 + (1 : Int32)), .null]) (by simp [xsub]) ?_
        exact fun h => ih (x5 + (1 : Int32)) I r hk h
      · refine kx_go 1 (pc' := 76) (lv' := [.ref 63, .ref 1, .null, .int x3, .int x4, .int x5, .int (x4 &&& (I 68 x5.toNatClampNeg))]) (st' := [.ref 63]) hX ok_Sets_findTimes rfl ?_
        refine kx_getp hX ok_Sets_findTimes rfl (q := 70) (nx := 79) rfl ?_
        refine kx_go 2 (pc' := 81) (lv' := [.ref 63, .ref 1, .null, .int x3, .int x4, .int x5, .int (x4 &&& (I 68 x5.toNatClampNeg))]) (st' := [.ref 63, .int x3, .ref 70]) hX ok_Sets_findTimes rfl ?_
        refine kx_getp hX ok_Sets_findTimes rfl (q := 70) (nx := 84) rfl ?_
        refine kx_go 1 (pc' := 85) (lv' := [.ref 63, .ref 1, .null, .int x3, .int x4, .int x5, .int (x4 &&& (I 68 x5.toNatClampNeg))]) (st' := [.int x3, .ref 70, .int x3, .ref 70]) hX ok_Sets_findTimes rfl ?_
        refine kx_iald hX ok_Sets_findTimes (w := 256) (nx := 86) rfl (fun b4 => ?_)
        refine kx_go 1 (pc' := 87) (lv' := [.ref 63, .ref 1, .null, .int x3, .int x4, .int x5, .int (x4 &&& (I 68 x5.toNatClampNeg))]) (st' := [.ref 63, .int (I 70 x3.toNatClampNeg), .int x3, .ref 70]) hX ok_Sets_findTimes rfl ?_
        refine kx_getp hX ok_Sets_findTimes rfl (q := 70) (nx := 90) rfl ?_
        refine kx_go 3 (pc' := 94) (lv' := [.ref 63, .ref 1, .null, .int x3, .int x4, .int x5, .int (x4 &&& (I 68 x5.toNatClampNeg))]) (st' := [.int (x3 ||| (x4 &&& (I 68 x5.toNatClampNeg))), .ref 70, .int (I 70 x3.toNatClampNeg), .int x3, .ref 70]) hX ok_Sets_findTimes rfl ?_
        refine kx_iald hX ok_Sets_findTimes (w := 256) (nx := 95) rfl (fun b5 => ?_)
        refine kx_go 2 (pc' := 97) (lv' := [.ref 63, .ref 1, .null, .int x3, .int x4, .int x5, .int (x4 &&& (I 68 x5.toNatClampNeg))]) (st' := [.int ((I 70 (x3 ||| (x4 &&& (I 68 x5.toNatClampNeg))).toNatClampNeg) + (1 : Int32)), .int (I 70 x3.toNatClampNeg), .int x3, .ref 70]) hX ok_Sets_findTimes rfl ?_
        refine kx_min (d := d) (by omega) ⟨Nat.le_of_ble_eq_true rfl, Nat.le_of_ble_eq_true rfl⟩ hX ok_Sets_findTimes (nx := 100) rfl l_Sets_79 (Nat.le_of_ble_eq_true rfl) ?_
        refine kx_iastc hX ok_Sets_findTimes (w := 256) (nx := 101) rfl b4 (k := x3.toNatClampNeg) rfl ?_
        refine kx_lt (Q := fun J6 => kW G X m_Sets_findTimes C J6 0 0 101 [.ref 63, .ref 1, .null, .int x3, .int x4, .int x5, .int (x4 &&& (I 68 x5.toNatClampNeg))] []) (fun J6 eJ6 => ?_)
        refine kx_go 2 (pc' := 52) (lv' := [.ref 63, .ref 1, .null, .int x3, .int x4, .int (x5 + (1 : Int32)), .int (x4 &&& (I 68 x5.toNatClampNeg))]) (st' := []) hX ok_Sets_findTimes rfl ?_
        refine kx_weak (lv' := [.ref 63, .ref 1, .null, .int x3, .int x4, .int (x5 + (1 : Int32)), .null]) (by simp [xsub]) ?_
        exact fun h => ih (x5 + (1 : Int32)) J6 r hk h
def L_Sets_findTimes_26  : Nat → Int32 → HI → Option (HI)
  | 0, _, _ => none
  | f + 1, x3, I => if x3 < (0 : Int32) then (some I) else (Option.bind (M_Sets_readyAfter I x3 (I 1 1)) fun p2 => grd (bnd x3 256) (lt (xu I 70 x3.toNatClampNeg (1000000 : Int32)) fun J4 => Option.bind (L_Sets_findTimes_52 x3 p2 1000 (0 : Int32) J4) fun p5 => L_Sets_findTimes_26 f (x3 + (-1 : Int32)) p5))
theorem s_L_Sets_findTimes_26 {G : xG} {X : xC} {d : Nat} (hd : 2 ≤ d) (hX : xAmb G X m_Sets_findTimes d 0 0)  (C : HC) : ∀ (f : Nat) (x3 : Int32) (I : HI) (r : HI), (kW G X m_Sets_findTimes C r 0 0 113 [.ref 63, .null, .null, .null, .null, .null, .null] []) → L_Sets_findTimes_26 f x3 I = some r → kW G X m_Sets_findTimes C I 0 0 26 [.ref 63, .ref 1, .null, .int x3, .null, .null, .null] [] := by
  intro f
  induction f with
  | zero => intro x3 I r hk h; rw [L_Sets_findTimes_26] at h; cases h
  | succ f ih =>
    intro x3 I r hk
    rw [L_Sets_findTimes_26]
    refine kx_go 2 (pc' := if x3 < (0 : Int32) then 113 else 30) (lv' := [.ref 63, .ref 1, .null, .int x3, .null, .null, .null]) (st' := []) hX ok_Sets_findTimes rfl ?_
    refine kx_ite (fun c1 => ?_) (fun c1 => ?_)
    · refine kx_weak (lv' := [.ref 63, .null, .null, .null, .null, .null, .null]) (by simp [xsub]) ?_
      intro h; have h := Option.some.inj h; subst h
      exact hk
    · refine kx_go 3 (pc' := 33) (lv' := [.ref 63, .ref 1, .null, .int x3, .null, .null, .null]) (st' := [.ref 1, .int x3, .ref 63]) hX ok_Sets_findTimes rfl ?_
      refine kx_geti hX ok_Sets_findTimes rfl (k := 1) (nx := 36) rfl ?_
      refine kx_bind (fun p2 hp2 => ?_)
      refine kx_V (r := 63) (as := [.int x3, .int (I 1 1)]) (by decide) hX ok_Sets_findTimes (nx := 39) rfl l_Sets_64 (by decide) rfl (fun _ => s_Sets_readyAfter (G := G) (d := 1) (Nat.le_refl _) C I x3 (I 1 1) p2 hp2) (by omega) rfl (rest := []) rfl (Nat.le_of_ble_eq_true rfl) ⟨Nat.le_of_ble_eq_true rfl, Nat.le_of_ble_eq_true rfl⟩ ?_
      show _ → kW G X m_Sets_findTimes C I 0 0 39 [.ref 63, .ref 1, .null, .int x3, .null, .null, .null] [.int p2]
      refine kx_go 2 (pc' := 42) (lv' := [.ref 63, .ref 1, .null, .int x3, .int p2, .null, .null]) (st' := [.ref 63]) hX ok_Sets_findTimes rfl ?_
      refine kx_getp hX ok_Sets_findTimes rfl (q := 70) (nx := 45) rfl ?_
      refine kx_go 2 (pc' := 48) (lv' := [.ref 63, .ref 1, .null, .int x3, .int p2, .null, .null]) (st' := [.int (1000000 : Int32), .int x3, .ref 70]) hX ok_Sets_findTimes rfl ?_
      refine kx_iast hX ok_Sets_findTimes (w := 256) (nx := 49) rfl (fun b3 => ?_)
      refine kx_lt (Q := fun J4 => kW G X m_Sets_findTimes C J4 0 0 49 [.ref 63, .ref 1, .null, .int x3, .int p2, .null, .null] []) (fun J4 eJ4 => ?_)
      refine kx_go 2 (pc' := 52) (lv' := [.ref 63, .ref 1, .null, .int x3, .int p2, .int (0 : Int32), .null]) (st' := []) hX ok_Sets_findTimes rfl ?_
      refine kx_bind (fun p5 hp5 => ?_)
      refine kx_via (fun hk => s_L_Sets_findTimes_52 (G := G) (X := X) (by omega) hX C x3 p2 1000 (0 : Int32) J4 p5 hk hp5) ?_
      refine kx_go 2 (pc' := 26) (lv' := [.ref 63, .ref 1, .null, .int (x3 + (-1 : Int32)), .null, .null, .null]) (st' := []) hX ok_Sets_findTimes rfl ?_
      exact fun h => ih (x3 + (-1 : Int32)) p5 r hk h
def M_Sets_findTimes (C : HC) (I : HI) : Option (Int32 × HI) := Option.bind (M_Sets_findBelow I) fun p1 => Option.bind (M_Sets_findAlike C p1) fun p2 => grd (bnd (M_Sets_allOf p2) 256) (lt (xu p2 70 (M_Sets_allOf p2).toNatClampNeg (0 : Int32)) fun J4 => Option.bind (L_Sets_findTimes_26 1000 ((M_Sets_allOf p2) - (1 : Int32)) J4) fun p5 => if (1000000 : Int32) ≤ (p5 70 0) then (some ((0 : Int32), p5)) else (some ((1 : Int32), p5)))
theorem s_Sets_findTimes {G : xG} {d : Nat} (hd : 2 ≤ d) (C : HC) (I : HI)   (r : Int32 × HI) : M_Sets_findTimes C I = some r → kM G d m_Sets_findTimes [.ref 63, .ref 1] C I 0 0 (some (.int r.1)) C r.2 := by
  unfold M_Sets_findTimes
  refine kM.of (by decide +kernel) (Nat.le_of_ble_eq_true rfl) (lv := [.ref 63, .ref 1, .null, .null, .null, .null, .null]) rfl (fun X hX hE => ?_)
  refine kx_go 2 (pc' := 2) (lv' := [.ref 63, .ref 1, .null, .null, .null, .null, .null]) (st' := [.ref 1, .ref 63]) hX ok_Sets_findTimes rfl ?_
  refine kx_bind (fun p1 hp1 => ?_)
  refine kx_V (r := 63) (as := [.ref 1]) (by decide) hX ok_Sets_findTimes (nx := 5) rfl l_Sets_56 (by decide) rfl (fun _ => s_Sets_findBelow (G := G) (d := 0) (Nat.le_refl _) C I  p1 hp1) (by omega) rfl (rest := []) rfl (Nat.le_of_ble_eq_true rfl) ⟨Nat.le_of_ble_eq_true rfl, Nat.le_of_ble_eq_true rfl⟩ ?_
  show _ → kW G X m_Sets_findTimes C p1 0 0 5 [.ref 63, .ref 1, .null, .null, .null, .null, .null] []
  refine kx_go 2 (pc' := 7) (lv' := [.ref 63, .ref 1, .null, .null, .null, .null, .null]) (st' := [.ref 1, .ref 63]) hX ok_Sets_findTimes rfl ?_
  refine kx_bind (fun p2 hp2 => ?_)
  refine kx_V (r := 63) (as := [.ref 1]) (by decide) hX ok_Sets_findTimes (nx := 10) rfl l_Sets_101 (by decide) rfl (fun _ => s_Sets_findAlike (G := G) (d := 1) (Nat.le_refl _) C p1  p2 hp2) (by omega) rfl (rest := []) rfl (Nat.le_of_ble_eq_true rfl) ⟨Nat.le_of_ble_eq_true rfl, Nat.le_of_ble_eq_true rfl⟩ ?_
  show _ → kW G X m_Sets_findTimes C p2 0 0 10 [.ref 63, .ref 1, .null, .null, .null, .null, .null] []
  refine kx_go 1 (pc' := 11) (lv' := [.ref 63, .ref 1, .null, .null, .null, .null, .null]) (st' := [.ref 1]) hX ok_Sets_findTimes rfl ?_
  refine kx_S (as := [.ref 1]) hX ok_Sets_findTimes (nx := 14) rfl l_Sets_60 (fun _ => s_Sets_allOf (G := G) (d := 0) (Nat.le_refl _) C p2  _ rfl) (by omega) rfl (rest := []) rfl (Nat.le_of_ble_eq_true rfl) ⟨Nat.le_of_ble_eq_true rfl, Nat.le_of_ble_eq_true rfl⟩ ?_
  show _ → kW G X m_Sets_findTimes C p2 0 0 14 [.ref 63, .ref 1, .null, .null, .null, .null, .null] [.int (M_Sets_allOf p2)]
  refine kx_go 2 (pc' := 16) (lv' := [.ref 63, .ref 1, .int (M_Sets_allOf p2), .null, .null, .null, .null]) (st' := [.ref 63]) hX ok_Sets_findTimes rfl ?_
  refine kx_getp hX ok_Sets_findTimes rfl (q := 70) (nx := 19) rfl ?_
  refine kx_go 2 (pc' := 21) (lv' := [.ref 63, .ref 1, .int (M_Sets_allOf p2), .null, .null, .null, .null]) (st' := [.int (0 : Int32), .int (M_Sets_allOf p2), .ref 70]) hX ok_Sets_findTimes rfl ?_
  refine kx_iast hX ok_Sets_findTimes (w := 256) (nx := 22) rfl (fun b3 => ?_)
  refine kx_lt (Q := fun J4 => kW G X m_Sets_findTimes C J4 0 0 22 [.ref 63, .ref 1, .int (M_Sets_allOf p2), .null, .null, .null, .null] []) (fun J4 eJ4 => ?_)
  refine kx_go 4 (pc' := 26) (lv' := [.ref 63, .ref 1, .int (M_Sets_allOf p2), .int ((M_Sets_allOf p2) - (1 : Int32)), .null, .null, .null]) (st' := []) hX ok_Sets_findTimes rfl ?_
  refine kx_weak (lv' := [.ref 63, .ref 1, .null, .int ((M_Sets_allOf p2) - (1 : Int32)), .null, .null, .null]) (by simp [xsub]) ?_
  refine kx_bind (fun p5 hp5 => ?_)
  refine kx_via (fun hk => s_L_Sets_findTimes_26 (G := G) (X := X) (by omega) hX C 1000 ((M_Sets_allOf p2) - (1 : Int32)) J4 p5 hk hp5) ?_
  refine kx_go 1 (pc' := 114) (lv' := [.ref 63, .null, .null, .null, .null, .null, .null]) (st' := [.ref 63]) hX ok_Sets_findTimes rfl ?_
  refine kx_getp hX ok_Sets_findTimes rfl (q := 70) (nx := 117) rfl ?_
  refine kx_go 1 (pc' := 118) (lv' := [.ref 63, .null, .null, .null, .null, .null, .null]) (st' := [.int (0 : Int32), .ref 70]) hX ok_Sets_findTimes rfl ?_
  refine kx_ialdc hX ok_Sets_findTimes (w := 256) (nx := 119) rfl rfl (k := 0) rfl ?_
  refine kx_go 2 (pc' := if (1000000 : Int32) ≤ (p5 70 0) then 128 else 124) (lv' := [.ref 63, .null, .null, .null, .null, .null, .null]) (st' := []) hX ok_Sets_findTimes rfl ?_
  refine kx_ite (fun c6 => ?_) (fun c6 => ?_)
  · refine kx_go 1 (pc' := 129) (lv' := [.ref 63, .null, .null, .null, .null, .null, .null]) (st' := [.int (0 : Int32)]) hX ok_Sets_findTimes rfl ?_
    intro h; have h := Option.some.inj h; subst h
    exact kx_zret hX hE ok_Sets_findTimes (nx := 130) rfl rfl (Or.inl rfl) ⟨Nat.le_of_ble_eq_true rfl, Nat.le_of_ble_eq_true rfl⟩
  · refine kx_go 2 (pc' := 129) (lv' := [.ref 63, .null, .null, .null, .null, .null, .null]) (st' := [.int (1 : Int32)]) hX ok_Sets_findTimes rfl ?_
    intro h; have h := Option.some.inj h; subst h
    exact kx_zret hX hE ok_Sets_findTimes (nx := 130) rfl rfl (Or.inr rfl) ⟨Nat.le_of_ble_eq_true rfl, Nat.le_of_ble_eq_true rfl⟩
