def M_Wall_held (x0 : Int32) (x1 : Int32) (x2 : Int32) : Int32 := (mmax x1 (mmin x2 x0))
theorem s_Wall_held {G : xG} {d : Nat} (hd : 1 ≤ d) (C : HC) (I : HI) (x0 : Int32) (x1 : Int32) (x2 : Int32)  (r : Int32) : M_Wall_held x0 x1 x2 = r → kM G d m_Wall_held [.int x0, .int x1, .int x2] C I 0 0 (some (.int r)) C I := by
  unfold M_Wall_held
  refine kM.of (by decide +kernel) (Nat.le_of_ble_eq_true rfl) (lv := [.int x0, .int x1, .int x2]) rfl (fun X hX hE => ?_)
  refine kx_go 3 (pc' := 3) (lv' := [.int x0, .int x1, .int x2]) (st' := [.int x0, .int x2, .int x1]) hX ok_Wall_held rfl ?_
  refine kx_min (d := d) (by omega) ⟨Nat.le_of_ble_eq_true rfl, Nat.le_of_ble_eq_true rfl⟩ hX ok_Wall_held (nx := 6) rfl l_Wall_82 (Nat.le_of_ble_eq_true rfl) ?_
  refine kx_max (d := d) (by omega) ⟨Nat.le_of_ble_eq_true rfl, Nat.le_of_ble_eq_true rfl⟩ hX ok_Wall_held (nx := 9) rfl l_Wall_88 (Nat.le_of_ble_eq_true rfl) ?_
  rintro rfl
  exact kx_iret hX hE ok_Wall_held (nx := 10) rfl rfl ⟨Nat.le_of_ble_eq_true rfl, Nat.le_of_ble_eq_true rfl⟩
def M_Text_isEmpty_2 (I : HI) : Int32 := if (I 21 2) = (0 : Int32) then ((1 : Int32)) else ((0 : Int32))
theorem s_Text_isEmpty_2 {G : xG} {d : Nat} (hd : 0 ≤ d) (C : HC) (I : HI)   (r : Int32) : M_Text_isEmpty_2 I = r → kM G d m_Text_isEmpty [.ref 21] C I 0 0 (some (.int r)) C I := by
  unfold M_Text_isEmpty_2
  refine kM.of (by decide +kernel) (Nat.le_of_ble_eq_true rfl) (lv := [.ref 21]) rfl (fun X hX hE => ?_)
  refine kx_go 1 (pc' := 1) (lv' := [.ref 21]) (st' := [.ref 21]) hX ok_Text_isEmpty rfl ?_
  refine kx_geti hX ok_Text_isEmpty rfl (k := 2) (nx := 4) rfl ?_
  refine kx_go 1 (pc' := if (I 21 2) = (0 : Int32) then 7 else 11) (lv' := [.ref 21]) (st' := []) hX ok_Text_isEmpty rfl ?_
  refine kx_ite (fun c1 => ?_) (fun c1 => ?_)
  · refine kx_go 2 (pc' := 12) (lv' := [.ref 21]) (st' := [.int (1 : Int32)]) hX ok_Text_isEmpty rfl ?_
    rintro rfl
    exact kx_zret hX hE ok_Text_isEmpty (nx := 13) rfl rfl (Or.inr rfl) ⟨Nat.le_of_ble_eq_true rfl, Nat.le_of_ble_eq_true rfl⟩
  · refine kx_go 1 (pc' := 12) (lv' := [.ref 21]) (st' := [.int (0 : Int32)]) hX ok_Text_isEmpty rfl ?_
    rintro rfl
    exact kx_zret hX hE ok_Text_isEmpty (nx := 13) rfl rfl (Or.inl rfl) ⟨Nat.le_of_ble_eq_true rfl, Nat.le_of_ble_eq_true rfl⟩
def L_Text_workOut_2_6 (x1 : Int32) (x2 : Int32) (x3 : Int32) (x4 : Int32) : Nat → Int32 → Int32 → HI → Option (HI)
  | 0, _, _, _ => none
  | f + 1, x5, x6, I => if (I 21 2) ≤ x6 then (some I) else (grd (bnd x6 50) (if (I 22 x6.toNatClampNeg) = (0 : Int32) then (if ((50 : Int32) - (1 : Int32)) ≤ x5 then (L_Text_workOut_2_6 x1 x2 x3 x4 f x5 (x6 + (1 : Int32)) I) else (grd (bnd (x5 + (1 : Int32)) 50) (lt (xu I 24 (x5 + (1 : Int32)).toNatClampNeg (I 23 x6.toNatClampNeg)) fun J6 => L_Text_workOut_2_6 x1 x2 x3 x4 f (x5 + (1 : Int32)) (x6 + (1 : Int32)) J6))) else (if (I 22 x6.toNatClampNeg) = (1 : Int32) then (if ((50 : Int32) - (1 : Int32)) ≤ x5 then (L_Text_workOut_2_6 x1 x2 x3 x4 f x5 (x6 + (1 : Int32)) I) else (grd (bnd (x5 + (1 : Int32)) 50) (lt (xu I 24 (x5 + (1 : Int32)).toNatClampNeg (M_Text_named (I 23 x6.toNatClampNeg) x1 x2 x3 x4)) fun J10 => L_Text_workOut_2_6 x1 x2 x3 x4 f (x5 + (1 : Int32)) (x6 + (1 : Int32)) J10))) else (if (I 22 x6.toNatClampNeg) = (33 : Int32) then (if x5 < (0 : Int32) then (L_Text_workOut_2_6 x1 x2 x3 x4 f x5 (x6 + (1 : Int32)) I) else (grd (bnd x5 50) (if (I 24 x5.toNatClampNeg) = (0 : Int32) then (lt (xu I 24 x5.toNatClampNeg (1 : Int32)) fun J15 => L_Text_workOut_2_6 x1 x2 x3 x4 f x5 (x6 + (1 : Int32)) J15) else (lt (xu I 24 x5.toNatClampNeg (0 : Int32)) fun J16 => L_Text_workOut_2_6 x1 x2 x3 x4 f x5 (x6 + (1 : Int32)) J16)))) else (if x5 < (1 : Int32) then (L_Text_workOut_2_6 x1 x2 x3 x4 f x5 (x6 + (1 : Int32)) I) else (grd (bnd (x5 + (-1 : Int32)) 50) (grd (bnd ((x5 + (-1 : Int32)) + (1 : Int32)) 50) (Option.bind (M_Text_joined (I 22 x6.toNatClampNeg) (I 24 (x5 + (-1 : Int32)).toNatClampNeg) (I 24 ((x5 + (-1 : Int32)) + (1 : Int32)).toNatClampNeg)) fun p20 => lt (xu I 24 (x5 + (-1 : Int32)).toNatClampNeg p20) fun J21 => L_Text_workOut_2_6 x1 x2 x3 x4 f (x5 + (-1 : Int32)) (x6 + (1 : Int32)) J21))))))))
theorem s_L_Text_workOut_2_6 {G : xG} {X : xC} {d : Nat} (hd : 1 ≤ d) (hX : xAmb G X m_Text_workOut d 0 0)  (C : HC) (x1 : Int32) (x2 : Int32) (x3 : Int32) (x4 : Int32) : ∀ (f : Nat) (x5 : Int32) (x6 : Int32) (I : HI) (r : HI), (kW G X m_Text_workOut C r 0 0 170 [.ref 21, .null, .null, .null, .null, .null, .null, .null] []) → L_Text_workOut_2_6 x1 x2 x3 x4 f x5 x6 I = some r → kW G X m_Text_workOut C I 0 0 6 [.ref 21, .int x1, .int x2, .int x3, .int x4, .int x5, .int x6, .null] [] := by
  intro f
  induction f with
  | zero => intro x5 x6 I r hk h; rw [L_Text_workOut_2_6] at h; cases h
  | succ f ih =>
    intro x5 x6 I r hk
    rw [L_Text_workOut_2_6]
    refine kx_go 2 (pc' := 9) (lv' := [.ref 21, .int x1, .int x2, .int x3, .int x4, .int x5, .int x6, .null]) (st' := [.ref 21, .int x6]) hX ok_Text_workOut rfl ?_
    refine kx_geti hX ok_Text_workOut rfl (k := 2) (nx := 12) rfl ?_
    refine kx_go 1 (pc' := if (I 21 2) ≤ x6 then 170 else 15) (lv' := [.ref 21, .int x1, .int x2, .int x3, .int x4, .int x5, .int x6, .null]) (st' := []) hX ok_Text_workOut rfl ?_
    refine kx_ite (fun c1 => ?_) (fun c1 => ?_)
    · refine kx_weak (lv' := [.ref 21, .null, .null, .null, .null, .null, .null, .null]) (by simp [xsub]) ?_
      intro h; have h := Option.some.inj h; subst h
      exact hk
    · refine kx_go 1 (pc' := 16) (lv' := [.ref 21, .int x1, .int x2, .int x3, .int x4, .int x5, .int x6, .null]) (st' := [.ref 21]) hX ok_Text_workOut rfl ?_
      refine kx_getp hX ok_Text_workOut rfl (q := 22) (nx := 19) rfl ?_
      refine kx_go 1 (pc' := 21) (lv' := [.ref 21, .int x1, .int x2, .int x3, .int x4, .int x5, .int x6, .null]) (st' := [.int x6, .ref 22]) hX ok_Text_workOut rfl ?_
      refine kx_iald hX ok_Text_workOut (w := 50) (nx := 22) rfl (fun b2 => ?_)
      refine kx_go 3 (pc' := if (I 22 x6.toNatClampNeg) = (0 : Int32) then 35 else 29) (lv' := [.ref 21, .int x1, .int x2, .int x3, .int x4, .int x5, .int x6, .int (I 22 x6.toNatClampNeg)]) (st' := []) hX ok_Text_workOut rfl ?_
      refine kx_ite (fun c3 => ?_) (fun c3 => ?_)
      · refine kx_go 2 (pc' := 38) (lv' := [.ref 21, .int x1, .int x2, .int x3, .int x4, .int x5, .int x6, .int (I 22 x6.toNatClampNeg)]) (st' := [.ref 21, .int x5]) hX ok_Text_workOut rfl ?_
        refine kx_getp hX ok_Text_workOut rfl (q := 24) (nx := 41) rfl ?_
        refine kx_alen hX ok_Text_workOut (w := 50) (nx := 42) rfl (y := (50 : Int32)) rfl ?_
        refine kx_go 3 (pc' := if ((50 : Int32) - (1 : Int32)) ≤ x5 then 164 else 47) (lv' := [.ref 21, .int x1, .int x2, .int x3, .int x4, .int x5, .int x6, .int (I 22 x6.toNatClampNeg)]) (st' := []) hX ok_Text_workOut rfl ?_
        refine kx_ite (fun c4 => ?_) (fun c4 => ?_)
        · refine kx_go 2 (pc' := 6) (lv' := [.ref 21, .int x1, .int x2, .int x3, .int x4, .int x5, .int (x6 + (1 : Int32)), .int (I 22 x6.toNatClampNeg)]) (st' := []) hX ok_Text_workOut rfl ?_
          refine kx_weak (lv' := [.ref 21, .int x1, .int x2, .int x3, .int x4, .int x5, .int (x6 + (1 : Int32)), .null]) (by simp [xsub]) ?_
          exact fun h => ih x5 (x6 + (1 : Int32)) I r hk h
        · refine kx_go 2 (pc' := 51) (lv' := [.ref 21, .int x1, .int x2, .int x3, .int x4, .int (x5 + (1 : Int32)), .int x6, .int (I 22 x6.toNatClampNeg)]) (st' := [.ref 21]) hX ok_Text_workOut rfl ?_
          refine kx_getp hX ok_Text_workOut rfl (q := 24) (nx := 54) rfl ?_
          refine kx_go 3 (pc' := if (I 22 x6.toNatClampNeg) = (0 : Int32) then 61 else 71) (lv' := [.ref 21, .int x1, .int x2, .int x3, .int x4, .int (x5 + (1 : Int32)), .int x6, .int (I 22 x6.toNatClampNeg)]) (st' := [.int (x5 + (1 : Int32)), .ref 24]) hX ok_Text_workOut rfl ?_
          refine kx_yes c3 ?_
          refine kx_go 1 (pc' := 62) (lv' := [.ref 21, .int x1, .int x2, .int x3, .int x4, .int (x5 + (1 : Int32)), .int x6, .int (I 22 x6.toNatClampNeg)]) (st' := [.ref 21, .int (x5 + (1 : Int32)), .ref 24]) hX ok_Text_workOut rfl ?_
          refine kx_getp hX ok_Text_workOut rfl (q := 23) (nx := 65) rfl ?_
          refine kx_go 1 (pc' := 67) (lv' := [.ref 21, .int x1, .int x2, .int x3, .int x4, .int (x5 + (1 : Int32)), .int x6, .int (I 22 x6.toNatClampNeg)]) (st' := [.int x6, .ref 23, .int (x5 + (1 : Int32)), .ref 24]) hX ok_Text_workOut rfl ?_
          refine kx_ialdc hX ok_Text_workOut (w := 50) (nx := 68) rfl b2 (k := x6.toNatClampNeg) rfl ?_
          refine kx_go 1 (pc' := 86) (lv' := [.ref 21, .int x1, .int x2, .int x3, .int x4, .int (x5 + (1 : Int32)), .int x6, .int (I 22 x6.toNatClampNeg)]) (st' := [.int (I 23 x6.toNatClampNeg), .int (x5 + (1 : Int32)), .ref 24]) hX ok_Text_workOut rfl ?_
          refine kx_iast hX ok_Text_workOut (w := 50) (nx := 87) rfl (fun b5 => ?_)
          refine kx_lt (Q := fun J6 => kW G X m_Text_workOut C J6 0 0 87 [.ref 21, .int x1, .int x2, .int x3, .int x4, .int (x5 + (1 : Int32)), .int x6, .int (I 22 x6.toNatClampNeg)] []) (fun J6 eJ6 => ?_)
          refine kx_go 3 (pc' := 6) (lv' := [.ref 21, .int x1, .int x2, .int x3, .int x4, .int (x5 + (1 : Int32)), .int (x6 + (1 : Int32)), .int (I 22 x6.toNatClampNeg)]) (st' := []) hX ok_Text_workOut rfl ?_
          refine kx_weak (lv' := [.ref 21, .int x1, .int x2, .int x3, .int x4, .int (x5 + (1 : Int32)), .int (x6 + (1 : Int32)), .null]) (by simp [xsub]) ?_
          exact fun h => ih (x5 + (1 : Int32)) (x6 + (1 : Int32)) J6 r hk h
      · refine kx_go 3 (pc' := if (I 22 x6.toNatClampNeg) = (1 : Int32) then 35 else 90) (lv' := [.ref 21, .int x1, .int x2, .int x3, .int x4, .int x5, .int x6, .int (I 22 x6.toNatClampNeg)]) (st' := []) hX ok_Text_workOut rfl ?_
        refine kx_ite (fun c7 => ?_) (fun c7 => ?_)
        · refine kx_go 2 (pc' := 38) (lv' := [.ref 21, .int x1, .int x2, .int x3, .int x4, .int x5, .int x6, .int (I 22 x6.toNatClampNeg)]) (st' := [.ref 21, .int x5]) hX ok_Text_workOut rfl ?_
          refine kx_getp hX ok_Text_workOut rfl (q := 24) (nx := 41) rfl ?_
          refine kx_alen hX ok_Text_workOut (w := 50) (nx := 42) rfl (y := (50 : Int32)) rfl ?_
          refine kx_go 3 (pc' := if ((50 : Int32) - (1 : Int32)) ≤ x5 then 164 else 47) (lv' := [.ref 21, .int x1, .int x2, .int x3, .int x4, .int x5, .int x6, .int (I 22 x6.toNatClampNeg)]) (st' := []) hX ok_Text_workOut rfl ?_
          refine kx_ite (fun c8 => ?_) (fun c8 => ?_)
          · refine kx_go 2 (pc' := 6) (lv' := [.ref 21, .int x1, .int x2, .int x3, .int x4, .int x5, .int (x6 + (1 : Int32)), .int (I 22 x6.toNatClampNeg)]) (st' := []) hX ok_Text_workOut rfl ?_
            refine kx_weak (lv' := [.ref 21, .int x1, .int x2, .int x3, .int x4, .int x5, .int (x6 + (1 : Int32)), .null]) (by simp [xsub]) ?_
            exact fun h => ih x5 (x6 + (1 : Int32)) I r hk h
          · refine kx_go 2 (pc' := 51) (lv' := [.ref 21, .int x1, .int x2, .int x3, .int x4, .int (x5 + (1 : Int32)), .int x6, .int (I 22 x6.toNatClampNeg)]) (st' := [.ref 21]) hX ok_Text_workOut rfl ?_
            refine kx_getp hX ok_Text_workOut rfl (q := 24) (nx := 54) rfl ?_
            refine kx_go 3 (pc' := if (I 22 x6.toNatClampNeg) = (0 : Int32) then 61 else 71) (lv' := [.ref 21, .int x1, .int x2, .int x3, .int x4, .int (x5 + (1 : Int32)), .int x6, .int (I 22 x6.toNatClampNeg)]) (st' := [.int (x5 + (1 : Int32)), .ref 24]) hX ok_Text_workOut rfl ?_
            refine kx_no c3 ?_
            refine kx_go 1 (pc' := 72) (lv' := [.ref 21, .int x1, .int x2, .int x3, .int x4, .int (x5 + (1 : Int32)), .int x6, .int (I 22 x6.toNatClampNeg)]) (st' := [.ref 21, .int (x5 + (1 : Int32)), .ref 24]) hX ok_Text_workOut rfl ?_
            refine kx_getp hX ok_Text_workOut rfl (q := 23) (nx := 75) rfl ?_
            refine kx_go 1 (pc' := 77) (lv' := [.ref 21, .int x1, .int x2, .int x3, .int x4, .int (x5 + (1 : Int32)), .int x6, .int (I 22 x6.toNatClampNeg)]) (st' := [.int x6, .ref 23, .int (x5 + (1 : Int32)), .ref 24]) hX ok_Text_workOut rfl ?_
            refine kx_ialdc hX ok_Text_workOut (w := 50) (nx := 78) rfl b2 (k := x6.toNatClampNeg) rfl ?_
            refine kx_go 4 (pc' := 83) (lv' := [.ref 21, .int x1, .int x2, .int x3, .int x4, .int (x5 + (1 : Int32)), .int x6, .int (I 22 x6.toNatClampNeg)]) (st' := [.int x4, .int x3, .int x2, .int x1, .int (I 23 x6.toNatClampNeg), .int (x5 + (1 : Int32)), .ref 24]) hX ok_Text_workOut rfl ?_
            refine kx_S (as := [.int (I 23 x6.toNatClampNeg), .int x1, .int x2, .int x3, .int x4]) hX ok_Text_workOut (nx := 86) rfl l_Text_77 (fun _ => s_Text_named (G := G) (d := 0) (Nat.le_refl _) C I (I 23 x6.toNatClampNeg) x1 x2 x3 x4 _ rfl) (by omega) rfl (rest := [.int (x5 + (1 : Int32)), .ref 24]) rfl (Nat.le_of_ble_eq_true rfl) ⟨Nat.le_of_ble_eq_true rfl, Nat.le_of_ble_eq_true rfl⟩ ?_
            show _ → kW G X m_Text_workOut C I 0 0 86 [.ref 21, .int x1, .int x2, .int x3, .int x4, .int (x5 + (1 : Int32)), .int x6, .int (I 22 x6.toNatClampNeg)] [.int (M_Text_named (I 23 x6.toNatClampNeg) x1 x2 x3 x4), .int (x5 + (1 : Int32)), .ref 24]
            refine kx_iast hX ok_Text_workOut (w := 50) (nx := 87) rfl (fun b9 => ?_)
            refine kx_lt (Q := fun J10 => kW G X m_Text_workOut C J10 0 0 87 [.ref 21, .int x1, .int x2, .int x3, .int x4, .int (x5 + (1 : Int32)), .int x6, .int (I 22 x6.toNatClampNeg)] []) (fun J10 eJ10 => ?_)
            refine kx_go 3 (pc' := 6) (lv' := [.ref 21, .int x1, .int x2, .int x3, .int x4, .int (x5 + (1 : Int32)), .int (x6 + (1 : Int32)), .int (I 22 x6.toNatClampNeg)]) (st' := []) hX ok_Text_workOut rfl ?_
            refine kx_weak (lv' := [.ref 21, .int x1, .int x2, .int x3, .int x4, .int (x5 + (1 : Int32)), .int (x6 + (1 : Int32)), .null]) (by simp [xsub]) ?_
            exact fun h => ih (x5 + (1 : Int32)) (x6 + (1 : Int32)) J10 r hk h
        · refine kx_go 3 (pc' := if (I 22 x6.toNatClampNeg) = (33 : Int32) then 97 else 127) (lv' := [.ref 21, .int x1, .int x2, .int x3, .int x4, .int x5, .int x6, .int (I 22 x6.toNatClampNeg)]) (st' := []) hX ok_Text_workOut rfl ?_
          refine kx_ite (fun c11 => ?_) (fun c11 => ?_)
          · refine kx_go 2 (pc' := if x5 < (0 : Int32) then 164 else 102) (lv' := [.ref 21, .int x1, .int x2, .int x3, .int x4, .int x5, .int x6, .int (I 22 x6.toNatClampNeg)]) (st' := []) hX ok_Text_workOut rfl ?_
            refine kx_ite (fun c12 => ?_) (fun c12 => ?_)
            · refine kx_go 2 (pc' := 6) (lv' := [.ref 21, .int x1, .int x2, .int x3, .int x4, .int x5, .int (x6 + (1 : Int32)), .int (I 22 x6.toNatClampNeg)]) (st' := []) hX ok_Text_workOut rfl ?_
              refine kx_weak (lv' := [.ref 21, .int x1, .int x2, .int x3, .int x4, .int x5, .int (x6 + (1 : Int32)), .null]) (by simp [xsub]) ?_
              exact fun h => ih x5 (x6 + (1 : Int32)) I r hk h
            · refine kx_go 1 (pc' := 103) (lv' := [.ref 21, .int x1, .int x2, .int x3, .int x4, .int x5, .int x6, .int (I 22 x6.toNatClampNeg)]) (st' := [.ref 21]) hX ok_Text_workOut rfl ?_
              refine kx_getp hX ok_Text_workOut rfl (q := 24) (nx := 106) rfl ?_
              refine kx_go 2 (pc' := 109) (lv' := [.ref 21, .int x1, .int x2, .int x3, .int x4, .int x5, .int x6, .int (I 22 x6.toNatClampNeg)]) (st' := [.ref 21, .int x5, .ref 24]) hX ok_Text_workOut rfl ?_
              refine kx_getp hX ok_Text_workOut rfl (q := 24) (nx := 112) rfl ?_
              refine kx_go 1 (pc' := 114) (lv' := [.ref 21, .int x1, .int x2, .int x3, .int x4, .int x5, .int x6, .int (I 22 x6.toNatClampNeg)]) (st' := [.int x5, .ref 24, .int x5, .ref 24]) hX ok_Text_workOut rfl ?_
              refine kx_iald hX ok_Text_workOut (w := 50) (nx := 115) rfl (fun b13 => ?_)
              refine kx_go 1 (pc' := if (I 24 x5.toNatClampNeg) = (0 : Int32) then 118 else 122) (lv' := [.ref 21, .int x1, .int x2, .int x3, .int x4, .int x5, .int x6, .int (I 22 x6.toNatClampNeg)]) (st' := [.int x5, .ref 24]) hX ok_Text_workOut rfl ?_
              refine kx_ite (fun c14 => ?_) (fun c14 => ?_)
              · refine kx_go 2 (pc' := 123) (lv' := [.ref 21, .int x1, .int x2, .int x3, .int x4, .int x5, .int x6, .int (I 22 x6.toNatClampNeg)]) (st' := [.int (1 : Int32), .int x5, .ref 24]) hX ok_Text_workOut rfl ?_
                refine kx_iastc hX ok_Text_workOut (w := 50) (nx := 124) rfl b13 (k := x5.toNatClampNeg) rfl ?_
                refine kx_lt (Q := fun J15 => kW G X m_Text_workOut C J15 0 0 124 [.ref 21, .int x1, .int x2, .int x3, .int x4, .int x5, .int x6, .int (I 22 x6.toNatClampNeg)] []) (fun J15 eJ15 => ?_)
                refine kx_go 3 (pc' := 6) (lv' := [.ref 21, .int x1, .int x2, .int x3, .int x4, .int x5, .int (x6 + (1 : Int32)), .int (I 22 x6.toNatClampNeg)]) (st' := []) hX ok_Text_workOut rfl ?_
                refine kx_weak (lv' := [.ref 21, .int x1, .int x2, .int x3, .int x4, .int x5, .int (x6 + (1 : Int32)), .null]) (by simp [xsub]) ?_
                exact fun h => ih x5 (x6 + (1 : Int32)) J15 r hk h
              · refine kx_go 1 (pc' := 123) (lv' := [.ref 21, .int x1, .int x2, .int x3, .int x4, .int x5, .int x6, .int (I 22 x6.toNatClampNeg)]) (st' := [.int (0 : Int32), .int x5, .ref 24]) hX ok_Text_workOut rfl ?_
                refine kx_iastc hX ok_Text_workOut (w := 50) (nx := 124) rfl b13 (k := x5.toNatClampNeg) rfl ?_
                refine kx_lt (Q := fun J16 => kW G X m_Text_workOut C J16 0 0 124 [.ref 21, .int x1, .int x2, .int x3, .int x4, .int x5, .int x6, .int (I 22 x6.toNatClampNeg)] []) (fun J16 eJ16 => ?_)
                refine kx_go 3 (pc' := 6) (lv' := [.ref 21, .int x1, .int x2, .int x3, .int x4, .int x5, .int (x6 + (1 : Int32)), .int (I 22 x6.toNatClampNeg)]) (st' := []) hX ok_Text_workOut rfl ?_
                refine kx_weak (lv' := [.ref 21, .int x1, .int x2, .int x3, .int x4, .int x5, .int (x6 + (1 : Int32)), .null]) (by simp [xsub]) ?_
                exact fun h => ih x5 (x6 + (1 : Int32)) J16 r hk h
          · refine kx_go 3 (pc' := if x5 < (1 : Int32) then 164 else 133) (lv' := [.ref 21, .int x1, .int x2, .int x3, .int x4, .int x5, .int x6, .int (I 22 x6.toNatClampNeg)]) (st' := []) hX ok_Text_workOut rfl ?_
            refine kx_ite (fun c17 => ?_) (fun c17 => ?_)
            · refine kx_go 2 (pc' := 6) (lv' := [.ref 21, .int x1, .int x2, .int x3, .int x4, .int x5, .int (x6 + (1 : Int32)), .int (I 22 x6.toNatClampNeg)]) (st' := []) hX ok_Text_workOut rfl ?_
              refine kx_weak (lv' := [.ref 21, .int x1, .int x2, .int x3, .int x4, .int x5, .int (x6 + (1 : Int32)), .null]) (by simp [xsub]) ?_
              exact fun h => ih x5 (x6 + (1 : Int32)) I r hk h
            · refine kx_go 2 (pc' := 137) (lv' := [.ref 21, .int x1, .int x2, .int x3, .int x4, .int (x5 + (-1 : Int32)), .int x6, .int (I 22 x6.toNatClampNeg)]) (st' := [.ref 21]) hX ok_Text_workOut rfl ?_
              refine kx_getp hX ok_Text_workOut rfl (q := 24) (nx := 140) rfl ?_
              refine kx_go 3 (pc' := 145) (lv' := [.ref 21, .int x1, .int x2, .int x3, .int x4, .int (x5 + (-1 : Int32)), .int x6, .int (I 22 x6.toNatClampNeg)]) (st' := [.ref 21, .int (I 22 x6.toNatClampNeg), .int (x5 + (-1 : Int32)), .ref 24]) hX ok_Text_workOut rfl ?_
              refine kx_getp hX ok_Text_workOut rfl (q := 24) (nx := 148) rfl ?_
              refine kx_go 1 (pc' := 150) (lv' := [.ref 21, .int x1, .int x2, .int x3, .int x4, .int (x5 + (-1 : Int32)), .int x6, .int (I 22 x6.toNatClampNeg)]) (st' := [.int (x5 + (-1 : Int32)), .ref 24, .int (I 22 x6.toNatClampNeg), .int (x5 + (-1 : Int32)), .ref 24]) hX ok_Text_workOut rfl ?_
              refine kx_iald hX ok_Text_workOut (w := 50) (nx := 151) rfl (fun b18 => ?_)
              refine kx_go 1 (pc' := 152) (lv' := [.ref 21, .int x1, .int x2, .int x3, .int x4, .int (x5 + (-1 : Int32)), .int x6, .int (I 22 x6.toNatClampNeg)]) (st' := [.ref 21, .int (I 24 (x5 + (-1 : Int32)).toNatClampNeg), .int (I 22 x6.toNatClampNeg), .int (x5 + (-1 : Int32)), .ref 24]) hX ok_Text_workOut rfl ?_
              refine kx_getp hX ok_Text_workOut rfl (q := 24) (nx := 155) rfl ?_
              refine kx_go 3 (pc' := 159) (lv' := [.ref 21, .int x1, .int x2, .int x3, .int x4, .int (x5 + (-1 : Int32)), .int x6, .int (I 22 x6.toNatClampNeg)]) (st' := [.int ((x5 + (-1 : Int32)) + (1 : Int32)), .ref 24, .int (I 24 (x5 + (-1 : Int32)).toNatClampNeg), .int (I 22 x6.toNatClampNeg), .int (x5 + (-1 : Int32)), .ref 24]) hX ok_Text_workOut rfl ?_
              refine kx_iald hX ok_Text_workOut (w := 50) (nx := 160) rfl (fun b19 => ?_)
              refine kx_bind (fun p20 hp20 => ?_)
              refine kx_S (as := [.int (I 22 x6.toNatClampNeg), .int (I 24 (x5 + (-1 : Int32)).toNatClampNeg), .int (I 24 ((x5 + (-1 : Int32)) + (1 : Int32)).toNatClampNeg)]) hX ok_Text_workOut (nx := 163) rfl l_Text_81 (fun _ => s_Text_joined (G := G) (d := 0) (Nat.le_refl _) C I (I 22 x6.toNatClampNeg) (I 24 (x5 + (-1 : Int32)).toNatClampNeg) (I 24 ((x5 + (-1 : Int32)) + (1 : Int32)).toNatClampNeg) p20 hp20) (by omega) rfl (rest := [.int (x5 + (-1 : Int32)), .ref 24]) rfl (Nat.le_of_ble_eq_true rfl) ⟨Nat.le_of_ble_eq_true rfl, Nat.le_of_ble_eq_true rfl⟩ ?_
              show _ → kW G X m_Text_workOut C I 0 0 163 [.ref 21, .int x1, .int x2, .int x3, .int x4, .int (x5 + (-1 : Int32)), .int x6, .int (I 22 x6.toNatClampNeg)] [.int p20, .int (x5 + (-1 : Int32)), .ref 24]
              refine kx_iastc hX ok_Text_workOut (w := 50) (nx := 164) rfl b18 (k := (x5 + (-1 : Int32)).toNatClampNeg) rfl ?_
              refine kx_lt (Q := fun J21 => kW G X m_Text_workOut C J21 0 0 164 [.ref 21, .int x1, .int x2, .int x3, .int x4, .int (x5 + (-1 : Int32)), .int x6, .int (I 22 x6.toNatClampNeg)] []) (fun J21 eJ21 => ?_)
              refine kx_go 2 (pc' := 6) (lv' := [.ref 21, .int x1, .int x2, .int x3, .int x4, .int (x5 + (-1 : Int32)), .int (x6 + (1 : Int32)), .int (I 22 x6.toNatClampNeg)]) (st' := []) hX ok_Text_workOut rfl ?_
              refine kx_weak (lv' := [.ref 21, .int x1, .int x2, .int x3, .int x4, .int (x5 + (-1 : Int32)), .int (x6 + (1 : Int32)), .null]) (by simp [xsub]) ?_
              exact fun h => ih (x5 + (-1 : Int32)) (x6 + (1 : Int32)) J21 r hk h
def M_Text_workOut_2 (I : HI) (x1 : Int32) (x2 : Int32) (x3 : Int32) (x4 : Int32) : Option (Int32 × HI) := Option.bind (L_Text_workOut_2_6 x1 x2 x3 x4 1000 (-1 : Int32) (0 : Int32) I) fun p1 => some ((p1 24 0), p1)
theorem s_Text_workOut_2 {G : xG} {d : Nat} (hd : 1 ≤ d) (C : HC) (I : HI) (x1 : Int32) (x2 : Int32) (x3 : Int32) (x4 : Int32)  (r : Int32 × HI) : M_Text_workOut_2 I x1 x2 x3 x4 = some r → kM G d m_Text_workOut [.ref 21, .int x1, .int x2, .int x3, .int x4] C I 0 0 (some (.int r.1)) C r.2 := by
  unfold M_Text_workOut_2
  refine kM.of (by decide +kernel) (Nat.le_of_ble_eq_true rfl) (lv := [.ref 21, .int x1, .int x2, .int x3, .int x4, .null, .null, .null]) rfl (fun X hX hE => ?_)
  refine kx_go 4 (pc' := 6) (lv' := [.ref 21, .int x1, .int x2, .int x3, .int x4, .int (-1 : Int32), .int (0 : Int32), .null]) (st' := []) hX ok_Text_workOut rfl ?_
  refine kx_bind (fun p1 hp1 => ?_)
  refine kx_via (fun hk => s_L_Text_workOut_2_6 (G := G) (X := X) (by omega) hX C x1 x2 x3 x4 1000 (-1 : Int32) (0 : Int32) I p1 hk hp1) ?_
  refine kx_go 1 (pc' := 171) (lv' := [.ref 21, .null, .null, .null, .null, .null, .null, .null]) (st' := [.ref 21]) hX ok_Text_workOut rfl ?_
  refine kx_getp hX ok_Text_workOut rfl (q := 24) (nx := 174) rfl ?_
  refine kx_go 1 (pc' := 175) (lv' := [.ref 21, .null, .null, .null, .null, .null, .null, .null]) (st' := [.int (0 : Int32), .ref 24]) hX ok_Text_workOut rfl ?_
  refine kx_ialdc hX ok_Text_workOut (w := 50) (nx := 176) rfl rfl (k := 0) rfl ?_
  intro h; have h := Option.some.inj h; subst h
  exact kx_iret hX hE ok_Text_workOut (nx := 177) rfl rfl ⟨Nat.le_of_ble_eq_true rfl, Nat.le_of_ble_eq_true rfl⟩
def M_Wall_givenBy (I : HI) (x1 : Int32) (x2 : Int32) (x3 : Int32) (x4 : Int32) (x5 : Int32) : Option (Int32 × HI) := if x1 = (0 : Int32) then (if (M_Text_isEmpty I) = (0 : Int32) then (Option.bind (M_Text_workOut I x2 x3 x4 x5) fun p3 => some ((M_Wall_held p3.1 (-999 : Int32) (999 : Int32)), p3.2)) else (some ((0 : Int32), I))) else (if (M_Text_isEmpty_2 I) = (0 : Int32) then (Option.bind (M_Text_workOut_2 I x2 x3 x4 x5) fun p5 => some ((M_Wall_held p5.1 (0 : Int32) (999 : Int32)), p5.2)) else (some ((M_Wall_held x2 (0 : Int32) (999 : Int32)), I)))
theorem s_Wall_givenBy {G : xG} {d : Nat} (hd : 2 ≤ d) (C : HC) (I : HI) (x1 : Int32) (x2 : Int32) (x3 : Int32) (x4 : Int32) (x5 : Int32)  (r : Int32 × HI) : M_Wall_givenBy I x1 x2 x3 x4 x5 = some r → kM G d m_Wall_givenBy [.ref 1, .int x1, .int x2, .int x3, .int x4, .int x5] C I 0 0 (some (.int r.1)) C r.2 := by
  unfold M_Wall_givenBy
  refine kM.of (by decide +kernel) (Nat.le_of_ble_eq_true rfl) (lv := [.ref 1, .int x1, .int x2, .int x3, .int x4, .int x5]) rfl (fun X hX hE => ?_)
  refine kx_go 2 (pc' := if x1 = (0 : Int32) then 4 else 45) (lv' := [.ref 1, .int x1, .int x2, .int x3, .int x4, .int x5]) (st' := []) hX ok_Wall_givenBy rfl ?_
  refine kx_ite (fun c1 => ?_) (fun c1 => ?_)
  · refine kx_go 1 (pc' := 5) (lv' := [.ref 1, .int x1, .int x2, .int x3, .int x4, .int x5]) (st' := [.ref 1]) hX ok_Wall_givenBy rfl ?_
    refine kx_getp hX ok_Wall_givenBy rfl (q := 15) (nx := 8) rfl ?_
    refine kx_go 1 (pc' := 9) (lv' := [.ref 1, .int x1, .int x2, .int x3, .int x4, .int x5]) (st' := [.int (0 : Int32), .ref 15]) hX ok_Wall_givenBy rfl ?_
    refine kx_aaXc hX ok_Wall_givenBy (nx := 10) rfl (by decide) rfl (q := 16) rfl ?_
    refine kx_V (r := 16) (as := []) (by decide) hX ok_Wall_givenBy (nx := 13) rfl l_Wall_177 (by decide) rfl (fun _ => s_Text_isEmpty (G := G) (d := 0) (Nat.le_refl _) C I  _ rfl) (by omega) rfl (rest := []) rfl (Nat.le_of_ble_eq_true rfl) ⟨Nat.le_of_ble_eq_true rfl, Nat.le_of_ble_eq_true rfl⟩ ?_
    show _ → kW G X m_Wall_givenBy C I 0 0 13 [.ref 1, .int x1, .int x2, .int x3, .int x4, .int x5] [.int (M_Text_isEmpty I)]
    refine kx_go 1 (pc' := if (M_Text_isEmpty I) = (0 : Int32) then 20 else 16) (lv' := [.ref 1, .int x1, .int x2, .int x3, .int x4, .int x5]) (st' := []) hX ok_Wall_givenBy rfl ?_
    refine kx_ite (fun c2 => ?_) (fun c2 => ?_)
    · refine kx_go 1 (pc' := 21) (lv' := [.ref 1, .int x1, .int x2, .int x3, .int x4, .int x5]) (st' := [.ref 1]) hX ok_Wall_givenBy rfl ?_
      refine kx_getp hX ok_Wall_givenBy rfl (q := 15) (nx := 24) rfl ?_
      refine kx_go 1 (pc' := 25) (lv' := [.ref 1, .int x1, .int x2, .int x3, .int x4, .int x5]) (st' := [.int (0 : Int32), .ref 15]) hX ok_Wall_givenBy rfl ?_
      refine kx_aaXc hX ok_Wall_givenBy (nx := 26) rfl (by decide) rfl (q := 16) rfl ?_
      refine kx_go 4 (pc' := 32) (lv' := [.ref 1, .int x1, .int x2, .int x3, .int x4, .int x5]) (st' := [.int x5, .int x4, .int x3, .int x2, .ref 16]) hX ok_Wall_givenBy rfl ?_
      refine kx_bind (fun p3 hp3 => ?_)
      refine kx_V (r := 16) (as := [.int x2, .int x3, .int x4, .int x5]) (by decide) hX ok_Wall_givenBy (nx := 35) rfl l_Wall_181 (by decide) rfl (fun _ => s_Text_workOut (G := G) (d := 1) (Nat.le_refl _) C I x2 x3 x4 x5 p3 hp3) (by omega) rfl (rest := []) rfl (Nat.le_of_ble_eq_true rfl) ⟨Nat.le_of_ble_eq_true rfl, Nat.le_of_ble_eq_true rfl⟩ ?_
      show _ → kW G X m_Wall_givenBy C p3.2 0 0 35 [.ref 1, .int x1, .int x2, .int x3, .int x4, .int x5] [.int p3.1]
      refine kx_go 2 (pc' := 41) (lv' := [.ref 1, .int x1, .int x2, .int x3, .int x4, .int x5]) (st' := [.int (999 : Int32), .int (-999 : Int32), .int p3.1]) hX ok_Wall_givenBy rfl ?_
      refine kx_S (as := [.int p3.1, .int (-999 : Int32), .int (999 : Int32)]) hX ok_Wall_givenBy (nx := 44) rfl l_Wall_139 (fun _ => s_Wall_held (G := G) (d := 1) (Nat.le_refl _) C p3.2 p3.1 (-999 : Int32) (999 : Int32) _ rfl) (by omega) rfl (rest := []) rfl (Nat.le_of_ble_eq_true rfl) ⟨Nat.le_of_ble_eq_true rfl, Nat.le_of_ble_eq_true rfl⟩ ?_
      show _ → kW G X m_Wall_givenBy C p3.2 0 0 44 [.ref 1, .int x1, .int x2, .int x3, .int x4, .int x5] [.int (M_Wall_held p3.1 (-999 : Int32) (999 : Int32))]
      intro h; have h := Option.some.inj h; subst h
      exact kx_iret hX hE ok_Wall_givenBy (nx := 45) rfl rfl ⟨Nat.le_of_ble_eq_true rfl, Nat.le_of_ble_eq_true rfl⟩
    · refine kx_go 2 (pc' := 44) (lv' := [.ref 1, .int x1, .int x2, .int x3, .int x4, .int x5]) (st' := [.int (0 : Int32)]) hX ok_Wall_givenBy rfl ?_
      intro h; have h := Option.some.inj h; subst h
      exact kx_iret hX hE ok_Wall_givenBy (nx := 45) rfl rfl ⟨Nat.le_of_ble_eq_true rfl, Nat.le_of_ble_eq_true rfl⟩
  · refine kx_go 1 (pc' := 46) (lv' := [.ref 1, .int x1, .int x2, .int x3, .int x4, .int x5]) (st' := [.ref 1]) hX ok_Wall_givenBy rfl ?_
    refine kx_getp hX ok_Wall_givenBy rfl (q := 15) (nx := 49) rfl ?_
    refine kx_go 1 (pc' := 50) (lv' := [.ref 1, .int x1, .int x2, .int x3, .int x4, .int x5]) (st' := [.int (1 : Int32), .ref 15]) hX ok_Wall_givenBy rfl ?_
    refine kx_aaXc hX ok_Wall_givenBy (nx := 51) rfl (by decide) rfl (q := 21) rfl ?_
    refine kx_V (r := 21) (as := []) (by decide) hX ok_Wall_givenBy (nx := 54) rfl l_Wall_177 (by decide) rfl (fun _ => s_Text_isEmpty_2 (G := G) (d := 0) (Nat.le_refl _) C I  _ rfl) (by omega) rfl (rest := []) rfl (Nat.le_of_ble_eq_true rfl) ⟨Nat.le_of_ble_eq_true rfl, Nat.le_of_ble_eq_true rfl⟩ ?_
    show _ → kW G X m_Wall_givenBy C I 0 0 54 [.ref 1, .int x1, .int x2, .int x3, .int x4, .int x5] [.int (M_Text_isEmpty_2 I)]
    refine kx_go 1 (pc' := if (M_Text_isEmpty_2 I) = (0 : Int32) then 61 else 57) (lv' := [.ref 1, .int x1, .int x2, .int x3, .int x4, .int x5]) (st' := []) hX ok_Wall_givenBy rfl ?_
    refine kx_ite (fun c4 => ?_) (fun c4 => ?_)
    · refine kx_go 1 (pc' := 62) (lv' := [.ref 1, .int x1, .int x2, .int x3, .int x4, .int x5]) (st' := [.ref 1]) hX ok_Wall_givenBy rfl ?_
      refine kx_getp hX ok_Wall_givenBy rfl (q := 15) (nx := 65) rfl ?_
      refine kx_go 1 (pc' := 66) (lv' := [.ref 1, .int x1, .int x2, .int x3, .int x4, .int x5]) (st' := [.int (1 : Int32), .ref 15]) hX ok_Wall_givenBy rfl ?_
      refine kx_aaXc hX ok_Wall_givenBy (nx := 67) rfl (by decide) rfl (q := 21) rfl ?_
      refine kx_go 4 (pc' := 73) (lv' := [.ref 1, .int x1, .int x2, .int x3, .int x4, .int x5]) (st' := [.int x5, .int x4, .int x3, .int x2, .ref 21]) hX ok_Wall_givenBy rfl ?_
      refine kx_bind (fun p5 hp5 => ?_)
      refine kx_V (r := 21) (as := [.int x2, .int x3, .int x4, .int x5]) (by decide) hX ok_Wall_givenBy (nx := 76) rfl l_Wall_181 (by decide) rfl (fun _ => s_Text_workOut_2 (G := G) (d := 1) (Nat.le_refl _) C I x2 x3 x4 x5 p5 hp5) (by omega) rfl (rest := []) rfl (Nat.le_of_ble_eq_true rfl) ⟨Nat.le_of_ble_eq_true rfl, Nat.le_of_ble_eq_true rfl⟩ ?_
      show _ → kW G X m_Wall_givenBy C p5.2 0 0 76 [.ref 1, .int x1, .int x2, .int x3, .int x4, .int x5] [.int p5.1]
      refine kx_go 2 (pc' := 80) (lv' := [.ref 1, .int x1, .int x2, .int x3, .int x4, .int x5]) (st' := [.int (999 : Int32), .int (0 : Int32), .int p5.1]) hX ok_Wall_givenBy rfl ?_
      refine kx_S (as := [.int p5.1, .int (0 : Int32), .int (999 : Int32)]) hX ok_Wall_givenBy (nx := 83) rfl l_Wall_139 (fun _ => s_Wall_held (G := G) (d := 1) (Nat.le_refl _) C p5.2 p5.1 (0 : Int32) (999 : Int32) _ rfl) (by omega) rfl (rest := []) rfl (Nat.le_of_ble_eq_true rfl) ⟨Nat.le_of_ble_eq_true rfl, Nat.le_of_ble_eq_true rfl⟩ ?_
      show _ → kW G X m_Wall_givenBy C p5.2 0 0 83 [.ref 1, .int x1, .int x2, .int x3, .int x4, .int x5] [.int (M_Wall_held p5.1 (0 : Int32) (999 : Int32))]
      intro h; have h := Option.some.inj h; subst h
      exact kx_iret hX hE ok_Wall_givenBy (nx := 84) rfl rfl ⟨Nat.le_of_ble_eq_true rfl, Nat.le_of_ble_eq_true rfl⟩
    · refine kx_go 4 (pc' := 80) (lv' := [.ref 1, .int x1, .int x2, .int x3, .int x4, .int x5]) (st' := [.int (999 : Int32), .int (0 : Int32), .int x2]) hX ok_Wall_givenBy rfl ?_
      refine kx_S (as := [.int x2, .int (0 : Int32), .int (999 : Int32)]) hX ok_Wall_givenBy (nx := 83) rfl l_Wall_139 (fun _ => s_Wall_held (G := G) (d := 1) (Nat.le_refl _) C I x2 (0 : Int32) (999 : Int32) _ rfl) (by omega) rfl (rest := []) rfl (Nat.le_of_ble_eq_true rfl) ⟨Nat.le_of_ble_eq_true rfl, Nat.le_of_ble_eq_true rfl⟩ ?_
      show _ → kW G X m_Wall_givenBy C I 0 0 83 [.ref 1, .int x1, .int x2, .int x3, .int x4, .int x5] [.int (M_Wall_held x2 (0 : Int32) (999 : Int32))]
      intro h; have h := Option.some.inj h; subst h
      exact kx_iret hX hE ok_Wall_givenBy (nx := 84) rfl rfl ⟨Nat.le_of_ble_eq_true rfl, Nat.le_of_ble_eq_true rfl⟩
def M_Wall_datesOf (C : HC) (I : HI) (x1 : Int32) : Option (Int32 × HI) := grd (bnd x1 8 && gS C (hT C x1.toNatClampNeg)) (Option.bind (M_Wall_givenBy I (0 : Int32) (I (hT C x1.toNatClampNeg) 6) (I (hT C x1.toNatClampNeg) 1) (M_Vkind C (hT C x1.toNatClampNeg)) (I (hT C x1.toNatClampNeg) 3)) fun p2 => some (p2.1, p2.2))
theorem s_Wall_datesOf {G : xG} {d : Nat} (hd : 3 ≤ d) (C : HC) (I : HI) (x1 : Int32)  (r : Int32 × HI) : M_Wall_datesOf C I x1 = some r → kM G d m_Wall_datesOf [.ref 1, .int x1] C I 0 0 (some (.int r.1)) C r.2 := by
  unfold M_Wall_datesOf
  refine kM.of (by decide +kernel) (Nat.le_of_ble_eq_true rfl) (lv := [.ref 1, .int x1, .null]) rfl (fun X hX hE => ?_)
  refine kx_go 1 (pc' := 1) (lv' := [.ref 1, .int x1, .null]) (st' := [.ref 1]) hX ok_Wall_datesOf rfl ?_
  refine kx_getp hX ok_Wall_datesOf rfl (q := 2) (nx := 4) rfl ?_
  refine kx_go 1 (pc' := 5) (lv' := [.ref 1, .int x1, .null]) (st' := [.int x1, .ref 2]) hX ok_Wall_datesOf rfl ?_
  refine kx_aaT hX ok_Wall_datesOf (nx := 6) rfl (fun bhq1 hq1 => ?_)
  refine kx_go 4 (pc' := 10) (lv' := [.ref 1, .int x1, .ref (hT C x1.toNatClampNeg)]) (st' := [.ref (hT C x1.toNatClampNeg), .int (0 : Int32), .ref 1]) hX ok_Wall_datesOf rfl ?_
  refine kx_gets hq1 hX ok_Wall_datesOf rfl (k := 6) (nx := 13) rfl ?_
  refine kx_go 1 (pc' := 14) (lv' := [.ref 1, .int x1, .ref (hT C x1.toNatClampNeg)]) (st' := [.ref (hT C x1.toNatClampNeg), .int (I (hT C x1.toNatClampNeg) 6), .int (0 : Int32), .ref 1]) hX ok_Wall_datesOf rfl ?_
  refine kx_gets hq1 hX ok_Wall_datesOf rfl (k := 1) (nx := 17) rfl ?_
  refine kx_go 1 (pc' := 18) (lv' := [.ref 1, .int x1, .ref (hT C x1.toNatClampNeg)]) (st' := [.ref (hT C x1.toNatClampNeg), .int (I (hT C x1.toNatClampNeg) 1), .int (I (hT C x1.toNatClampNeg) 6), .int (0 : Int32), .ref 1]) hX ok_Wall_datesOf rfl ?_
  refine kx_U (as := []) hq1 hX ok_Wall_datesOf (nx := 21) rfl (l_Wall_52 (gS_k hq1)) (fun _ => s_Vkind (G := G) (d := 0) (Nat.le_refl _) C I (hT C x1.toNatClampNeg) hq1 _ rfl) (by omega) rfl (rest := [.int (I (hT C x1.toNatClampNeg) 1), .int (I (hT C x1.toNatClampNeg) 6), .int (0 : Int32), .ref 1]) rfl (Nat.le_of_ble_eq_true rfl) ⟨Nat.le_of_ble_eq_true rfl, Nat.le_of_ble_eq_true rfl⟩ ?_
  show _ → kW G X m_Wall_datesOf C I 0 0 21 [.ref 1, .int x1, .ref (hT C x1.toNatClampNeg)] [.int (M_Vkind C (hT C x1.toNatClampNeg)), .int (I (hT C x1.toNatClampNeg) 1), .int (I (hT C x1.toNatClampNeg) 6), .int (0 : Int32), .ref 1]
  refine kx_go 1 (pc' := 22) (lv' := [.ref 1, .int x1, .ref (hT C x1.toNatClampNeg)]) (st' := [.ref (hT C x1.toNatClampNeg), .int (M_Vkind C (hT C x1.toNatClampNeg)), .int (I (hT C x1.toNatClampNeg) 1), .int (I (hT C x1.toNatClampNeg) 6), .int (0 : Int32), .ref 1]) hX ok_Wall_datesOf rfl ?_
  refine kx_gets hq1 hX ok_Wall_datesOf rfl (k := 3) (nx := 25) rfl ?_
  refine kx_bind (fun p2 hp2 => ?_)
  refine kx_V (r := 1) (as := [.int (0 : Int32), .int (I (hT C x1.toNatClampNeg) 6), .int (I (hT C x1.toNatClampNeg) 1), .int (M_Vkind C (hT C x1.toNatClampNeg)), .int (I (hT C x1.toNatClampNeg) 3)]) (by decide) hX ok_Wall_datesOf (nx := 28) rfl l_Wall_149 (by decide) rfl (fun _ => s_Wall_givenBy (G := G) (d := 2) (Nat.le_refl _) C I (0 : Int32) (I (hT C x1.toNatClampNeg) 6) (I (hT C x1.toNatClampNeg) 1) (M_Vkind C (hT C x1.toNatClampNeg)) (I (hT C x1.toNatClampNeg) 3) p2 hp2) (by omega) rfl (rest := []) rfl (Nat.le_of_ble_eq_true rfl) ⟨Nat.le_of_ble_eq_true rfl, Nat.le_of_ble_eq_true rfl⟩ ?_
  show _ → kW G X m_Wall_datesOf C p2.2 0 0 28 [.ref 1, .int x1, .ref (hT C x1.toNatClampNeg)] [.int p2.1]
  intro h; have h := Option.some.inj h; subst h
  exact kx_iret hX hE ok_Wall_datesOf (nx := 29) rfl rfl ⟨Nat.le_of_ble_eq_true rfl, Nat.le_of_ble_eq_true rfl⟩
def M_Wall_earlyOf (C : HC) (I : HI) (x1 : Int32) : Option (Int32 × HI) := grd (bnd x1 8 && gS C (hT C x1.toNatClampNeg)) (Option.bind (M_Wall_datesOf C I x1) fun p2 => some ((M_Wall_held ((M_Vearly C I (hT C x1.toNatClampNeg)) + p2.1) (0 : Int32) (9999 : Int32)), p2.2))
theorem s_Wall_earlyOf {G : xG} {d : Nat} (hd : 4 ≤ d) (C : HC) (I : HI) (x1 : Int32)  (r : Int32 × HI) : M_Wall_earlyOf C I x1 = some r → kM G d m_Wall_earlyOf [.ref 1, .int x1] C I 0 0 (some (.int r.1)) C r.2 := by
  unfold M_Wall_earlyOf
  refine kM.of (by decide +kernel) (Nat.le_of_ble_eq_true rfl) (lv := [.ref 1, .int x1]) rfl (fun X hX hE => ?_)
  refine kx_go 1 (pc' := 1) (lv' := [.ref 1, .int x1]) (st' := [.ref 1]) hX ok_Wall_earlyOf rfl ?_
  refine kx_getp hX ok_Wall_earlyOf rfl (q := 2) (nx := 4) rfl ?_
  refine kx_go 1 (pc' := 5) (lv' := [.ref 1, .int x1]) (st' := [.int x1, .ref 2]) hX ok_Wall_earlyOf rfl ?_
  refine kx_aaT hX ok_Wall_earlyOf (nx := 6) rfl (fun bhq1 hq1 => ?_)
  refine kx_U (as := []) hq1 hX ok_Wall_earlyOf (nx := 9) rfl (l_Wall_133 (gS_k hq1)) (fun _ => s_Vearly (G := G) (d := 2) (Nat.le_refl _) C I (hT C x1.toNatClampNeg) hq1 _ rfl) (by omega) rfl (rest := []) rfl (Nat.le_of_ble_eq_true rfl) ⟨Nat.le_of_ble_eq_true rfl, Nat.le_of_ble_eq_true rfl⟩ ?_
  show _ → kW G X m_Wall_earlyOf C I 0 0 9 [.ref 1, .int x1] [.int (M_Vearly C I (hT C x1.toNatClampNeg))]
  refine kx_go 2 (pc' := 11) (lv' := [.ref 1, .int x1]) (st' := [.int x1, .ref 1, .int (M_Vearly C I (hT C x1.toNatClampNeg))]) hX ok_Wall_earlyOf rfl ?_
  refine kx_bind (fun p2 hp2 => ?_)
  refine kx_V (r := 1) (as := [.int x1]) (by decide) hX ok_Wall_earlyOf (nx := 14) rfl l_Wall_136 (by decide) rfl (fun _ => s_Wall_datesOf (G := G) (d := 3) (Nat.le_refl _) C I x1 p2 hp2) (by omega) rfl (rest := [.int (M_Vearly C I (hT C x1.toNatClampNeg))]) rfl (Nat.le_of_ble_eq_true rfl) ⟨Nat.le_of_ble_eq_true rfl, Nat.le_of_ble_eq_true rfl⟩ ?_
  show _ → kW G X m_Wall_earlyOf C p2.2 0 0 14 [.ref 1, .int x1] [.int p2.1, .int (M_Vearly C I (hT C x1.toNatClampNeg))]
  refine kx_go 3 (pc' := 19) (lv' := [.ref 1, .int x1]) (st' := [.int (9999 : Int32), .int (0 : Int32), .int ((M_Vearly C I (hT C x1.toNatClampNeg)) + p2.1)]) hX ok_Wall_earlyOf rfl ?_
  refine kx_S (as := [.int ((M_Vearly C I (hT C x1.toNatClampNeg)) + p2.1), .int (0 : Int32), .int (9999 : Int32)]) hX ok_Wall_earlyOf (nx := 22) rfl l_Wall_139 (fun _ => s_Wall_held (G := G) (d := 1) (Nat.le_refl _) C p2.2 ((M_Vearly C I (hT C x1.toNatClampNeg)) + p2.1) (0 : Int32) (9999 : Int32) _ rfl) (by omega) rfl (rest := []) rfl (Nat.le_of_ble_eq_true rfl) ⟨Nat.le_of_ble_eq_true rfl, Nat.le_of_ble_eq_true rfl⟩ ?_
  show _ → kW G X m_Wall_earlyOf C p2.2 0 0 22 [.ref 1, .int x1] [.int (M_Wall_held ((M_Vearly C I (hT C x1.toNatClampNeg)) + p2.1) (0 : Int32) (9999 : Int32))]
  intro h; have h := Option.some.inj h; subst h
  exact kx_iret hX hE ok_Wall_earlyOf (nx := 23) rfl rfl ⟨Nat.le_of_ble_eq_true rfl, Nat.le_of_ble_eq_true rfl⟩
def M_Stroke_late (I : HI) (q0 : Nat) : Int32 := (I q0 5)
theorem s_Stroke_late {G : xG} {d : Nat} (hd : 0 ≤ d) (C : HC) (I : HI) (q0 : Nat) (hq0 : gS C q0 = true) (r : Int32) : M_Stroke_late I q0 = r → kM G d m_Stroke_late [.ref q0] C I 0 0 (some (.int r)) C I := by
  unfold M_Stroke_late
  refine kM.of (by decide +kernel) (Nat.le_of_ble_eq_true rfl) (lv := [.ref q0]) rfl (fun X hX hE => ?_)
  refine kx_go 1 (pc' := 1) (lv' := [.ref q0]) (st' := [.ref q0]) hX ok_Stroke_late rfl ?_
  refine kx_gets hq0 hX ok_Stroke_late rfl (k := 5) (nx := 4) rfl ?_
  rintro rfl
  exact kx_iret hX hE ok_Stroke_late (nx := 5) rfl rfl ⟨Nat.le_of_ble_eq_true rfl, Nat.le_of_ble_eq_true rfl⟩
def M_Black_late (I : HI) (q0 : Nat) : Int32 := ((M_Stroke_late I q0) - (I q0 6))
theorem s_Black_late {G : xG} {d : Nat} (hd : 1 ≤ d) (C : HC) (I : HI) (q0 : Nat) (hq0 : gS C q0 = true) (r : Int32) : M_Black_late I q0 = r → kM G d m_Black_late [.ref q0] C I 0 0 (some (.int r)) C I := by
  unfold M_Black_late
  refine kM.of (by decide +kernel) (Nat.le_of_ble_eq_true rfl) (lv := [.ref q0]) rfl (fun X hX hE => ?_)
  refine kx_go 1 (pc' := 1) (lv' := [.ref q0]) (st' := [.ref q0]) hX ok_Black_late rfl ?_
  refine kx_SU (as := []) hq0 hX ok_Black_late (nx := 4) rfl l_Black_11 (fun _ => s_Stroke_late (G := G) (d := 0) (Nat.le_refl _) C I q0 hq0 _ rfl) (by omega) rfl (rest := []) rfl (Nat.le_of_ble_eq_true rfl) ⟨Nat.le_of_ble_eq_true rfl, Nat.le_of_ble_eq_true rfl⟩ ?_
  show _ → kW G X m_Black_late C I 0 0 4 [.ref q0] [.int (M_Stroke_late I q0)]
  refine kx_go 1 (pc' := 5) (lv' := [.ref q0]) (st' := [.ref q0, .int (M_Stroke_late I q0)]) hX ok_Black_late rfl ?_
  refine kx_gets hq0 hX ok_Black_late rfl (k := 6) (nx := 8) rfl ?_
  refine kx_go 1 (pc' := 9) (lv' := [.ref q0]) (st' := [.int ((M_Stroke_late I q0) - (I q0 6))]) hX ok_Black_late rfl ?_
  rintro rfl
  exact kx_iret hX hE ok_Black_late (nx := 10) rfl rfl ⟨Nat.le_of_ble_eq_true rfl, Nat.le_of_ble_eq_true rfl⟩
def M_Child_late (I : HI) (q0 : Nat) : Int32 := ((M_Stroke_late I q0) - (I q0 1))
theorem s_Child_late {G : xG} {d : Nat} (hd : 1 ≤ d) (C : HC) (I : HI) (q0 : Nat) (hq0 : gS C q0 = true) (r : Int32) : M_Child_late I q0 = r → kM G d m_Child_late [.ref q0] C I 0 0 (some (.int r)) C I := by
  unfold M_Child_late
  refine kM.of (by decide +kernel) (Nat.le_of_ble_eq_true rfl) (lv := [.ref q0]) rfl (fun X hX hE => ?_)
  refine kx_go 1 (pc' := 1) (lv' := [.ref q0]) (st' := [.ref q0]) hX ok_Child_late rfl ?_
  refine kx_SX (as := []) hq0 hX ok_Child_late (nx := 4) rfl l_Child_15 (fun _ => s_Stroke_late (G := G) (d := 0) (Nat.le_refl _) C I q0 hq0 _ rfl) (by omega) rfl (rest := []) rfl (Nat.le_of_ble_eq_true rfl) ⟨Nat.le_of_ble_eq_true rfl, Nat.le_of_ble_eq_true rfl⟩ ?_
  show _ → kW G X m_Child_late C I 0 0 4 [.ref q0] [.int (M_Stroke_late I q0)]
  refine kx_go 1 (pc' := 5) (lv' := [.ref q0]) (st' := [.ref q0, .int (M_Stroke_late I q0)]) hX ok_Child_late rfl ?_
  refine kx_gets hq0 hX ok_Child_late rfl (k := 1) (nx := 8) rfl ?_
  refine kx_go 1 (pc' := 9) (lv' := [.ref q0]) (st' := [.int ((M_Stroke_late I q0) - (I q0 1))]) hX ok_Child_late rfl ?_
  rintro rfl
  exact kx_iret hX hE ok_Child_late (nx := 10) rfl rfl ⟨Nat.le_of_ble_eq_true rfl, Nat.le_of_ble_eq_true rfl⟩
def M_Soot_late (I : HI) (q0 : Nat) : Int32 := ((M_Black_late I q0) - (I q0 6))
theorem s_Soot_late {G : xG} {d : Nat} (hd : 2 ≤ d) (C : HC) (I : HI) (q0 : Nat) (hq0 : gS C q0 = true) (r : Int32) : M_Soot_late I q0 = r → kM G d m_Soot_late [.ref q0] C I 0 0 (some (.int r)) C I := by
  unfold M_Soot_late
  refine kM.of (by decide +kernel) (Nat.le_of_ble_eq_true rfl) (lv := [.ref q0]) rfl (fun X hX hE => ?_)
  refine kx_go 1 (pc' := 1) (lv' := [.ref q0]) (st' := [.ref q0]) hX ok_Soot_late rfl ?_
  refine kx_SU (as := []) hq0 hX ok_Soot_late (nx := 4) rfl l_Soot_21 (fun _ => s_Black_late (G := G) (d := 1) (Nat.le_refl _) C I q0 hq0 _ rfl) (by omega) rfl (rest := []) rfl (Nat.le_of_ble_eq_true rfl) ⟨Nat.le_of_ble_eq_true rfl, Nat.le_of_ble_eq_true rfl⟩ ?_
  show _ → kW G X m_Soot_late C I 0 0 4 [.ref q0] [.int (M_Black_late I q0)]
  refine kx_go 1 (pc' := 5) (lv' := [.ref q0]) (st' := [.ref q0, .int (M_Black_late I q0)]) hX ok_Soot_late rfl ?_
  refine kx_gets hq0 hX ok_Soot_late rfl (k := 6) (nx := 8) rfl ?_
  refine kx_go 1 (pc' := 9) (lv' := [.ref q0]) (st' := [.int ((M_Black_late I q0) - (I q0 6))]) hX ok_Soot_late rfl ?_
  rintro rfl
  exact kx_iret hX hE ok_Soot_late (nx := 10) rfl rfl ⟨Nat.le_of_ble_eq_true rfl, Nat.le_of_ble_eq_true rfl⟩
def M_Forged_late (q0 : Nat) : Int32 := (9999 : Int32)
theorem s_Forged_late {G : xG} {d : Nat} (hd : 0 ≤ d) (C : HC) (I : HI) (q0 : Nat) (hq0 : gS C q0 = true) (r : Int32) : M_Forged_late q0 = r → kM G d m_Forged_late [.ref q0] C I 0 0 (some (.int r)) C I := by
  unfold M_Forged_late
  refine kM.of (by decide +kernel) (Nat.le_of_ble_eq_true rfl) (lv := [.ref q0]) rfl (fun X hX hE => ?_)
  refine kx_go 1 (pc' := 3) (lv' := [.ref q0]) (st' := [.int (9999 : Int32)]) hX ok_Forged_late rfl ?_
  rintro rfl
  exact kx_iret hX hE ok_Forged_late (nx := 4) rfl rfl ⟨Nat.le_of_ble_eq_true rfl, Nat.le_of_ble_eq_true rfl⟩
def M_Vlate (C : HC) (I : HI) (q0 : Nat) : Int32 := if kc C q0 = 0 then M_Stroke_late I q0 else if kc C q0 = 1 then M_Stroke_late I q0 else if kc C q0 = 2 then M_Black_late I q0 else if kc C q0 = 3 then M_Stroke_late I q0 else if kc C q0 = 4 then M_Child_late I q0 else if kc C q0 = 5 then M_Soot_late I q0 else M_Forged_late q0
theorem s_Vlate {G : xG} {d : Nat} (hd : 2 ≤ d) (C : HC) (I : HI) (q0 : Nat) (hq0 : gS C q0 = true) (r : Int32) : M_Vlate C I q0 = r → kM G d (sel_late (kc C q0)) [.ref q0] C I 0 0 (some (.int r)) C I := by
  unfold M_Vlate
  refine kx_if (fun h0 => ?_) (fun h0 => ?_)
  · rw [show sel_late (kc C q0) = m_Stroke_late by rw [h0]; rfl]
    exact s_Stroke_late (by omega) C I q0 hq0 _
  ·
    refine kx_if (fun h1 => ?_) (fun h1 => ?_)
    · rw [show sel_late (kc C q0) = m_Stroke_late by rw [h1]; rfl]
      exact s_Stroke_late (by omega) C I q0 hq0 _
    ·
      refine kx_if (fun h2 => ?_) (fun h2 => ?_)
      · rw [show sel_late (kc C q0) = m_Black_late by rw [h2]; rfl]
        exact s_Black_late (by omega) C I q0 hq0 _
      ·
        refine kx_if (fun h3 => ?_) (fun h3 => ?_)
        · rw [show sel_late (kc C q0) = m_Stroke_late by rw [h3]; rfl]
          exact s_Stroke_late (by omega) C I q0 hq0 _
        ·
          refine kx_if (fun h4 => ?_) (fun h4 => ?_)
          · rw [show sel_late (kc C q0) = m_Child_late by rw [h4]; rfl]
            exact s_Child_late (by omega) C I q0 hq0 _
          ·
            refine kx_if (fun h5 => ?_) (fun h5 => ?_)
            · rw [show sel_late (kc C q0) = m_Soot_late by rw [h5]; rfl]
              exact s_Soot_late (by omega) C I q0 hq0 _
            ·
              have h6 : kc C q0 = 6 := by have := gS_k hq0; omega
              rw [show sel_late (kc C q0) = m_Forged_late by rw [h6]; rfl]
              exact s_Forged_late (by omega) C I q0 hq0 _
def M_Wall_lateOf (C : HC) (I : HI) (x1 : Int32) : Option (Int32 × HI) := grd (bnd x1 8 && gS C (hT C x1.toNatClampNeg)) (Option.bind (M_Wall_datesOf C I x1) fun p2 => some ((M_Wall_held ((M_Vlate C I (hT C x1.toNatClampNeg)) + p2.1) (0 : Int32) (9999 : Int32)), p2.2))
theorem s_Wall_lateOf {G : xG} {d : Nat} (hd : 4 ≤ d) (C : HC) (I : HI) (x1 : Int32)  (r : Int32 × HI) : M_Wall_lateOf C I x1 = some r → kM G d m_Wall_lateOf [.ref 1, .int x1] C I 0 0 (some (.int r.1)) C r.2 := by
  unfold M_Wall_lateOf
  refine kM.of (by decide +kernel) (Nat.le_of_ble_eq_true rfl) (lv := [.ref 1, .int x1]) rfl (fun X hX hE => ?_)
  refine kx_go 1 (pc' := 1) (lv' := [.ref 1, .int x1]) (st' := [.ref 1]) hX ok_Wall_lateOf rfl ?_
  refine kx_getp hX ok_Wall_lateOf rfl (q := 2) (nx := 4) rfl ?_
  refine kx_go 1 (pc' := 5) (lv' := [.ref 1, .int x1]) (st' := [.int x1, .ref 2]) hX ok_Wall_lateOf rfl ?_
  refine kx_aaT hX ok_Wall_lateOf (nx := 6) rfl (fun bhq1 hq1 => ?_)
  refine kx_U (as := []) hq1 hX ok_Wall_lateOf (nx := 9) rfl (l_Wall_143 (gS_k hq1)) (fun _ => s_Vlate (G := G) (d := 2) (Nat.le_refl _) C I (hT C x1.toNatClampNeg) hq1 _ rfl) (by omega) rfl (rest := []) rfl (Nat.le_of_ble_eq_true rfl) ⟨Nat.le_of_ble_eq_true rfl, Nat.le_of_ble_eq_true rfl⟩ ?_
  show _ → kW G X m_Wall_lateOf C I 0 0 9 [.ref 1, .int x1] [.int (M_Vlate C I (hT C x1.toNatClampNeg))]
  refine kx_go 2 (pc' := 11) (lv' := [.ref 1, .int x1]) (st' := [.int x1, .ref 1, .int (M_Vlate C I (hT C x1.toNatClampNeg))]) hX ok_Wall_lateOf rfl ?_
  refine kx_bind (fun p2 hp2 => ?_)
  refine kx_V (r := 1) (as := [.int x1]) (by decide) hX ok_Wall_lateOf (nx := 14) rfl l_Wall_136 (by decide) rfl (fun _ => s_Wall_datesOf (G := G) (d := 3) (Nat.le_refl _) C I x1 p2 hp2) (by omega) rfl (rest := [.int (M_Vlate C I (hT C x1.toNatClampNeg))]) rfl (Nat.le_of_ble_eq_true rfl) ⟨Nat.le_of_ble_eq_true rfl, Nat.le_of_ble_eq_true rfl⟩ ?_
  show _ → kW G X m_Wall_lateOf C p2.2 0 0 14 [.ref 1, .int x1] [.int p2.1, .int (M_Vlate C I (hT C x1.toNatClampNeg))]
  refine kx_go 3 (pc' := 19) (lv' := [.ref 1, .int x1]) (st' := [.int (9999 : Int32), .int (0 : Int32), .int ((M_Vlate C I (hT C x1.toNatClampNeg)) + p2.1)]) hX ok_Wall_lateOf rfl ?_
  refine kx_S (as := [.int ((M_Vlate C I (hT C x1.toNatClampNeg)) + p2.1), .int (0 : Int32), .int (9999 : Int32)]) hX ok_Wall_lateOf (nx := 22) rfl l_Wall_139 (fun _ => s_Wall_held (G := G) (d := 1) (Nat.le_refl _) C p2.2 ((M_Vlate C I (hT C x1.toNatClampNeg)) + p2.1) (0 : Int32) (9999 : Int32) _ rfl) (by omega) rfl (rest := []) rfl (Nat.le_of_ble_eq_true rfl) ⟨Nat.le_of_ble_eq_true rfl, Nat.le_of_ble_eq_true rfl⟩ ?_
  show _ → kW G X m_Wall_lateOf C p2.2 0 0 22 [.ref 1, .int x1] [.int (M_Wall_held ((M_Vlate C I (hT C x1.toNatClampNeg)) + p2.1) (0 : Int32) (9999 : Int32))]
  intro h; have h := Option.some.inj h; subst h
  exact kx_iret hX hE ok_Wall_lateOf (nx := 23) rfl rfl ⟨Nat.le_of_ble_eq_true rfl, Nat.le_of_ble_eq_true rfl⟩
def M_Stroke_stuff (q0 : Nat) : Int32 := (0 : Int32)
theorem s_Stroke_stuff {G : xG} {d : Nat} (hd : 0 ≤ d) (C : HC) (I : HI) (q0 : Nat) (hq0 : gS C q0 = true) (r : Int32) : M_Stroke_stuff q0 = r → kM G d m_Stroke_stuff [.ref q0] C I 0 0 (some (.int r)) C I := by
  unfold M_Stroke_stuff
  refine kM.of (by decide +kernel) (Nat.le_of_ble_eq_true rfl) (lv := [.ref q0]) rfl (fun X hX hE => ?_)
  refine kx_go 1 (pc' := 1) (lv' := [.ref q0]) (st' := [.int (0 : Int32)]) hX ok_Stroke_stuff rfl ?_
  rintro rfl
  exact kx_iret hX hE ok_Stroke_stuff (nx := 2) rfl rfl ⟨Nat.le_of_ble_eq_true rfl, Nat.le_of_ble_eq_true rfl⟩
def M_Red_stuff (q0 : Nat) : Int32 := (1 : Int32)
theorem s_Red_stuff {G : xG} {d : Nat} (hd : 0 ≤ d) (C : HC) (I : HI) (q0 : Nat) (hq0 : gS C q0 = true) (r : Int32) : M_Red_stuff q0 = r → kM G d m_Red_stuff [.ref q0] C I 0 0 (some (.int r)) C I := by
  unfold M_Red_stuff
  refine kM.of (by decide +kernel) (Nat.le_of_ble_eq_true rfl) (lv := [.ref q0]) rfl (fun X hX hE => ?_)
  refine kx_go 1 (pc' := 1) (lv' := [.ref q0]) (st' := [.int (1 : Int32)]) hX ok_Red_stuff rfl ?_
  rintro rfl
  exact kx_iret hX hE ok_Red_stuff (nx := 2) rfl rfl ⟨Nat.le_of_ble_eq_true rfl, Nat.le_of_ble_eq_true rfl⟩
def M_Black_stuff (q0 : Nat) : Int32 := (2 : Int32)
theorem s_Black_stuff {G : xG} {d : Nat} (hd : 0 ≤ d) (C : HC) (I : HI) (q0 : Nat) (hq0 : gS C q0 = true) (r : Int32) : M_Black_stuff q0 = r → kM G d m_Black_stuff [.ref q0] C I 0 0 (some (.int r)) C I := by
  unfold M_Black_stuff
  refine kM.of (by decide +kernel) (Nat.le_of_ble_eq_true rfl) (lv := [.ref q0]) rfl (fun X hX hE => ?_)
  refine kx_go 1 (pc' := 1) (lv' := [.ref q0]) (st' := [.int (2 : Int32)]) hX ok_Black_stuff rfl ?_
  rintro rfl
  exact kx_iret hX hE ok_Black_stuff (nx := 2) rfl rfl ⟨Nat.le_of_ble_eq_true rfl, Nat.le_of_ble_eq_true rfl⟩
def M_Scratch_stuff (q0 : Nat) : Int32 := (3 : Int32)
theorem s_Scratch_stuff {G : xG} {d : Nat} (hd : 0 ≤ d) (C : HC) (I : HI) (q0 : Nat) (hq0 : gS C q0 = true) (r : Int32) : M_Scratch_stuff q0 = r → kM G d m_Scratch_stuff [.ref q0] C I 0 0 (some (.int r)) C I := by
  unfold M_Scratch_stuff
  refine kM.of (by decide +kernel) (Nat.le_of_ble_eq_true rfl) (lv := [.ref q0]) rfl (fun X hX hE => ?_)
  refine kx_go 1 (pc' := 1) (lv' := [.ref q0]) (st' := [.int (3 : Int32)]) hX ok_Scratch_stuff rfl ?_
  rintro rfl
  exact kx_iret hX hE ok_Scratch_stuff (nx := 2) rfl rfl ⟨Nat.le_of_ble_eq_true rfl, Nat.le_of_ble_eq_true rfl⟩
def M_Vstuff (C : HC) (q0 : Nat) : Int32 := if kc C q0 = 0 then M_Stroke_stuff q0 else if kc C q0 = 1 then M_Red_stuff q0 else if kc C q0 = 2 then M_Black_stuff q0 else if kc C q0 = 3 then M_Scratch_stuff q0 else if kc C q0 = 4 then M_Red_stuff q0 else if kc C q0 = 5 then M_Black_stuff q0 else M_Scratch_stuff q0
theorem s_Vstuff {G : xG} {d : Nat} (hd : 0 ≤ d) (C : HC) (I : HI) (q0 : Nat) (hq0 : gS C q0 = true) (r : Int32) : M_Vstuff C q0 = r → kM G d (sel_stuff (kc C q0)) [.ref q0] C I 0 0 (some (.int r)) C I := by
  unfold M_Vstuff
  refine kx_if (fun h0 => ?_) (fun h0 => ?_)
  · rw [show sel_stuff (kc C q0) = m_Stroke_stuff by rw [h0]; rfl]
    exact s_Stroke_stuff (by omega) C I q0 hq0 _
  ·
    refine kx_if (fun h1 => ?_) (fun h1 => ?_)
    · rw [show sel_stuff (kc C q0) = m_Red_stuff by rw [h1]; rfl]
      exact s_Red_stuff (by omega) C I q0 hq0 _
    ·
      refine kx_if (fun h2 => ?_) (fun h2 => ?_)
      · rw [show sel_stuff (kc C q0) = m_Black_stuff by rw [h2]; rfl]
        exact s_Black_stuff (by omega) C I q0 hq0 _
      ·
        refine kx_if (fun h3 => ?_) (fun h3 => ?_)
        · rw [show sel_stuff (kc C q0) = m_Scratch_stuff by rw [h3]; rfl]
          exact s_Scratch_stuff (by omega) C I q0 hq0 _
        ·
          refine kx_if (fun h4 => ?_) (fun h4 => ?_)
          · rw [show sel_stuff (kc C q0) = m_Red_stuff by rw [h4]; rfl]
            exact s_Red_stuff (by omega) C I q0 hq0 _
          ·
            refine kx_if (fun h5 => ?_) (fun h5 => ?_)
            · rw [show sel_stuff (kc C q0) = m_Black_stuff by rw [h5]; rfl]
              exact s_Black_stuff (by omega) C I q0 hq0 _
            ·
              have h6 : kc C q0 = 6 := by have := gS_k hq0; omega
              rw [show sel_stuff (kc C q0) = m_Scratch_stuff by rw [h6]; rfl]
              exact s_Scratch_stuff (by omega) C I q0 hq0 _
def M_H_ofStroke (C : HC) (I : HI) (x1 : Int32) (x2 : Int32) : Option (Int32 × HI) := if (M_Wall_hasStroke I x1) = (0 : Int32) then (Option.bind (M_H_error I (1 : Int32)) fun p2 => some (p2.1, p2.2)) else (if x2 = (0 : Int32) then (grd (bnd x1 8 && gS C (hT C x1.toNatClampNeg)) (some ((M_Vkind C (hT C x1.toNatClampNeg)), I))) else (if x2 = (1 : Int32) then (grd (bnd x1 8 && gS C (hT C x1.toNatClampNeg)) (some ((M_Vpart C I (hT C x1.toNatClampNeg) x2), I))) else (if x2 = (2 : Int32) then (grd (bnd x1 8 && gS C (hT C x1.toNatClampNeg)) (some ((M_Vpart C I (hT C x1.toNatClampNeg) x2), I))) else (if x2 = (3 : Int32) then (grd (bnd x1 8 && gS C (hT C x1.toNatClampNeg)) (some ((M_Vpart C I (hT C x1.toNatClampNeg) x2), I))) else (if x2 = (4 : Int32) then (grd (bnd x1 8 && gS C (hT C x1.toNatClampNeg)) (some ((M_Vpart C I (hT C x1.toNatClampNeg) x2), I))) else (if x2 = (5 : Int32) then (grd (bnd x1 8 && gS C (hT C x1.toNatClampNeg)) (some ((M_Vpart C I (hT C x1.toNatClampNeg) x2), I))) else (if x2 = (6 : Int32) then (grd (bnd x1 8 && gS C (hT C x1.toNatClampNeg)) (some ((M_Vpart C I (hT C x1.toNatClampNeg) x2), I))) else (if x2 = (7 : Int32) then (Option.bind (M_Wall_earlyOf C I x1) fun p18 => some (p18.1, p18.2)) else (if x2 = (8 : Int32) then (Option.bind (M_Wall_lateOf C I x1) fun p20 => some (p20.1, p20.2)) else (if x2 = (9 : Int32) then (grd (bnd x1 8 && gS C (hT C x1.toNatClampNeg)) (some ((M_Vstuff C (hT C x1.toNatClampNeg)), I))) else (Option.bind (M_H_error I (1 : Int32)) fun p23 => some (p23.1, p23.2))))))))))))
theorem s_H_ofStroke {G : xG} {d : Nat} (hd : 5 ≤ d) (C : HC) (I : HI) (x1 : Int32) (x2 : Int32)  (r : Int32 × HI) : M_H_ofStroke C I x1 x2 = some r → kM G d m_H_ofStroke [.ref 0, .int x1, .int x2] C I 0 0 (some (.int r.1)) C r.2 := by
  unfold M_H_ofStroke
  refine kM.of (by decide +kernel) (Nat.le_of_ble_eq_true rfl) (lv := [.ref 0, .int x1, .int x2]) rfl (fun X hX hE => ?_)
  refine kx_go 1 (pc' := 1) (lv' := [.ref 0, .int x1, .int x2]) (st' := [.ref 0]) hX ok_H_ofStroke rfl ?_
  refine kx_getp hX ok_H_ofStroke rfl (q := 1) (nx := 4) rfl ?_
  refine kx_go 1 (pc' := 5) (lv' := [.ref 0, .int x1, .int x2]) (st' := [.int x1, .ref 1]) hX ok_H_ofStroke rfl ?_
  refine kx_V (r := 1) (as := [.int x1]) (by decide) hX ok_H_ofStroke (nx := 8) rfl l_H_71 (by decide) rfl (fun _ => s_Wall_hasStroke (G := G) (d := 0) (Nat.le_refl _) C I x1 _ rfl) (by omega) rfl (rest := []) rfl (Nat.le_of_ble_eq_true rfl) ⟨Nat.le_of_ble_eq_true rfl, Nat.le_of_ble_eq_true rfl⟩ ?_
  show _ → kW G X m_H_ofStroke C I 0 0 8 [.ref 0, .int x1, .int x2] [.int (M_Wall_hasStroke I x1)]
  refine kx_go 1 (pc' := if (M_Wall_hasStroke I x1) = (0 : Int32) then 11 else 17) (lv' := [.ref 0, .int x1, .int x2]) (st' := []) hX ok_H_ofStroke rfl ?_
  refine kx_ite (fun c1 => ?_) (fun c1 => ?_)
  · refine kx_go 2 (pc' := 13) (lv' := [.ref 0, .int x1, .int x2]) (st' := [.int (1 : Int32), .ref 0]) hX ok_H_ofStroke rfl ?_
    refine kx_bind (fun p2 hp2 => ?_)
    refine kx_V (r := 0) (as := [.int (1 : Int32)]) (by decide) hX ok_H_ofStroke (nx := 16) rfl l_H_60 (by decide) rfl (fun _ => s_H_error (G := G) (d := 0) (Nat.le_refl _) C I (1 : Int32) p2 hp2) (by omega) rfl (rest := []) rfl (Nat.le_of_ble_eq_true rfl) ⟨Nat.le_of_ble_eq_true rfl, Nat.le_of_ble_eq_true rfl⟩ ?_
    show _ → kW G X m_H_ofStroke C p2.2 0 0 16 [.ref 0, .int x1, .int x2] [.int p2.1]
    intro h; have h := Option.some.inj h; subst h
    exact kx_iret hX hE ok_H_ofStroke (nx := 17) rfl rfl ⟨Nat.le_of_ble_eq_true rfl, Nat.le_of_ble_eq_true rfl⟩
  · refine kx_go 2 (pc' := xtsw x2 [((0 : Int32), 72), ((1 : Int32), 85), ((2 : Int32), 85), ((3 : Int32), 85), ((4 : Int32), 85), ((5 : Int32), 85), ((6 : Int32), 85), ((7 : Int32), 99), ((8 : Int32), 108), ((9 : Int32), 117)] 130) (lv' := [.ref 0, .int x1, .int x2]) (st' := []) hX ok_H_ofStroke rfl ?_
    refine kx_sw (fun c3 => ?_) (fun c3 => ?_)
    · refine kx_go 1 (pc' := 73) (lv' := [.ref 0, .int x1, .int x2]) (st' := [.ref 0]) hX ok_H_ofStroke rfl ?_
      refine kx_getp hX ok_H_ofStroke rfl (q := 1) (nx := 76) rfl ?_
      refine kx_getp hX ok_H_ofStroke rfl (q := 2) (nx := 79) rfl ?_
      refine kx_go 1 (pc' := 80) (lv' := [.ref 0, .int x1, .int x2]) (st' := [.int x1, .ref 2]) hX ok_H_ofStroke rfl ?_
      refine kx_aaT hX ok_H_ofStroke (nx := 81) rfl (fun bhq4 hq4 => ?_)
      refine kx_U (as := []) hq4 hX ok_H_ofStroke (nx := 84) rfl (l_H_79 (gS_k hq4)) (fun _ => s_Vkind (G := G) (d := 0) (Nat.le_refl _) C I (hT C x1.toNatClampNeg) hq4 _ rfl) (by omega) rfl (rest := []) rfl (Nat.le_of_ble_eq_true rfl) ⟨Nat.le_of_ble_eq_true rfl, Nat.le_of_ble_eq_true rfl⟩ ?_
      show _ → kW G X m_H_ofStroke C I 0 0 84 [.ref 0, .int x1, .int x2] [.int (M_Vkind C (hT C x1.toNatClampNeg))]
      intro h; have h := Option.some.inj h; subst h
      exact kx_iret hX hE ok_H_ofStroke (nx := 85) rfl rfl ⟨Nat.le_of_ble_eq_true rfl, Nat.le_of_ble_eq_true rfl⟩
    · refine kx_sw (fun c5 => ?_) (fun c5 => ?_)
      · refine kx_go 1 (pc' := 86) (lv' := [.ref 0, .int x1, .int x2]) (st' := [.ref 0]) hX ok_H_ofStroke rfl ?_
        refine kx_getp hX ok_H_ofStroke rfl (q := 1) (nx := 89) rfl ?_
        refine kx_getp hX ok_H_ofStroke rfl (q := 2) (nx := 92) rfl ?_
        refine kx_go 1 (pc' := 93) (lv' := [.ref 0, .int x1, .int x2]) (st' := [.int x1, .ref 2]) hX ok_H_ofStroke rfl ?_
        refine kx_aaT hX ok_H_ofStroke (nx := 94) rfl (fun bhq6 hq6 => ?_)
        refine kx_go 1 (pc' := 95) (lv' := [.ref 0, .int x1, .int x2]) (st' := [.int x2, .ref (hT C x1.toNatClampNeg)]) hX ok_H_ofStroke rfl ?_
        refine kx_U (as := [.int x2]) hq6 hX ok_H_ofStroke (nx := 98) rfl (l_H_85 (gS_k hq6)) (fun _ => s_Vpart (G := G) (d := 0) (Nat.le_refl _) C I (hT C x1.toNatClampNeg) x2 hq6 _ rfl) (by omega) rfl (rest := []) rfl (Nat.le_of_ble_eq_true rfl) ⟨Nat.le_of_ble_eq_true rfl, Nat.le_of_ble_eq_true rfl⟩ ?_
        show _ → kW G X m_H_ofStroke C I 0 0 98 [.ref 0, .int x1, .int x2] [.int (M_Vpart C I (hT C x1.toNatClampNeg) x2)]
        intro h; have h := Option.some.inj h; subst h
        exact kx_iret hX hE ok_H_ofStroke (nx := 99) rfl rfl ⟨Nat.le_of_ble_eq_true rfl, Nat.le_of_ble_eq_true rfl⟩
      · refine kx_sw (fun c7 => ?_) (fun c7 => ?_)
        · refine kx_go 1 (pc' := 86) (lv' := [.ref 0, .int x1, .int x2]) (st' := [.ref 0]) hX ok_H_ofStroke rfl ?_
          refine kx_getp hX ok_H_ofStroke rfl (q := 1) (nx := 89) rfl ?_
          refine kx_getp hX ok_H_ofStroke rfl (q := 2) (nx := 92) rfl ?_
          refine kx_go 1 (pc' := 93) (lv' := [.ref 0, .int x1, .int x2]) (st' := [.int x1, .ref 2]) hX ok_H_ofStroke rfl ?_
          refine kx_aaT hX ok_H_ofStroke (nx := 94) rfl (fun bhq8 hq8 => ?_)
          refine kx_go 1 (pc' := 95) (lv' := [.ref 0, .int x1, .int x2]) (st' := [.int x2, .ref (hT C x1.toNatClampNeg)]) hX ok_H_ofStroke rfl ?_
          refine kx_U (as := [.int x2]) hq8 hX ok_H_ofStroke (nx := 98) rfl (l_H_85 (gS_k hq8)) (fun _ => s_Vpart (G := G) (d := 0) (Nat.le_refl _) C I (hT C x1.toNatClampNeg) x2 hq8 _ rfl) (by omega) rfl (rest := []) rfl (Nat.le_of_ble_eq_true rfl) ⟨Nat.le_of_ble_eq_true rfl, Nat.le_of_ble_eq_true rfl⟩ ?_
          show _ → kW G X m_H_ofStroke C I 0 0 98 [.ref 0, .int x1, .int x2] [.int (M_Vpart C I (hT C x1.toNatClampNeg) x2)]
          intro h; have h := Option.some.inj h; subst h
          exact kx_iret hX hE ok_H_ofStroke (nx := 99) rfl rfl ⟨Nat.le_of_ble_eq_true rfl, Nat.le_of_ble_eq_true rfl⟩
        · refine kx_sw (fun c9 => ?_) (fun c9 => ?_)
          · refine kx_go 1 (pc' := 86) (lv' := [.ref 0, .int x1, .int x2]) (st' := [.ref 0]) hX ok_H_ofStroke rfl ?_
            refine kx_getp hX ok_H_ofStroke rfl (q := 1) (nx := 89) rfl ?_
            refine kx_getp hX ok_H_ofStroke rfl (q := 2) (nx := 92) rfl ?_
            refine kx_go 1 (pc' := 93) (lv' := [.ref 0, .int x1, .int x2]) (st' := [.int x1, .ref 2]) hX ok_H_ofStroke rfl ?_
            refine kx_aaT hX ok_H_ofStroke (nx := 94) rfl (fun bhq10 hq10 => ?_)
            refine kx_go 1 (pc' := 95) (lv' := [.ref 0, .int x1, .int x2]) (st' := [.int x2, .ref (hT C x1.toNatClampNeg)]) hX ok_H_ofStroke rfl ?_
            refine kx_U (as := [.int x2]) hq10 hX ok_H_ofStroke (nx := 98) rfl (l_H_85 (gS_k hq10)) (fun _ => s_Vpart (G := G) (d := 0) (Nat.le_refl _) C I (hT C x1.toNatClampNeg) x2 hq10 _ rfl) (by omega) rfl (rest := []) rfl (Nat.le_of_ble_eq_true rfl) ⟨Nat.le_of_ble_eq_true rfl, Nat.le_of_ble_eq_true rfl⟩ ?_
            show _ → kW G X m_H_ofStroke C I 0 0 98 [.ref 0, .int x1, .int x2] [.int (M_Vpart C I (hT C x1.toNatClampNeg) x2)]
            intro h; have h := Option.some.inj h; subst h
            exact kx_iret hX hE ok_H_ofStroke (nx := 99) rfl rfl ⟨Nat.le_of_ble_eq_true rfl, Nat.le_of_ble_eq_true rfl⟩
          · refine kx_sw (fun c11 => ?_) (fun c11 => ?_)
            · refine kx_go 1 (pc' := 86) (lv' := [.ref 0, .int x1, .int x2]) (st' := [.ref 0]) hX ok_H_ofStroke rfl ?_
              refine kx_getp hX ok_H_ofStroke rfl (q := 1) (nx := 89) rfl ?_
              refine kx_getp hX ok_H_ofStroke rfl (q := 2) (nx := 92) rfl ?_
              refine kx_go 1 (pc' := 93) (lv' := [.ref 0, .int x1, .int x2]) (st' := [.int x1, .ref 2]) hX ok_H_ofStroke rfl ?_
              refine kx_aaT hX ok_H_ofStroke (nx := 94) rfl (fun bhq12 hq12 => ?_)
              refine kx_go 1 (pc' := 95) (lv' := [.ref 0, .int x1, .int x2]) (st' := [.int x2, .ref (hT C x1.toNatClampNeg)]) hX ok_H_ofStroke rfl ?_
              refine kx_U (as := [.int x2]) hq12 hX ok_H_ofStroke (nx := 98) rfl (l_H_85 (gS_k hq12)) (fun _ => s_Vpart (G := G) (d := 0) (Nat.le_refl _) C I (hT C x1.toNatClampNeg) x2 hq12 _ rfl) (by omega) rfl (rest := []) rfl (Nat.le_of_ble_eq_true rfl) ⟨Nat.le_of_ble_eq_true rfl, Nat.le_of_ble_eq_true rfl⟩ ?_
              show _ → kW G X m_H_ofStroke C I 0 0 98 [.ref 0, .int x1, .int x2] [.int (M_Vpart C I (hT C x1.toNatClampNeg) x2)]
              intro h; have h := Option.some.inj h; subst h
              exact kx_iret hX hE ok_H_ofStroke (nx := 99) rfl rfl ⟨Nat.le_of_ble_eq_true rfl, Nat.le_of_ble_eq_true rfl⟩
            · refine kx_sw (fun c13 => ?_) (fun c13 => ?_)
              · refine kx_go 1 (pc' := 86) (lv' := [.ref 0, .int x1, .int x2]) (st' := [.ref 0]) hX ok_H_ofStroke rfl ?_
                refine kx_getp hX ok_H_ofStroke rfl (q := 1) (nx := 89) rfl ?_
                refine kx_getp hX ok_H_ofStroke rfl (q := 2) (nx := 92) rfl ?_
                refine kx_go 1 (pc' := 93) (lv' := [.ref 0, .int x1, .int x2]) (st' := [.int x1, .ref 2]) hX ok_H_ofStroke rfl ?_
                refine kx_aaT hX ok_H_ofStroke (nx := 94) rfl (fun bhq14 hq14 => ?_)
                refine kx_go 1 (pc' := 95) (lv' := [.ref 0, .int x1, .int x2]) (st' := [.int x2, .ref (hT C x1.toNatClampNeg)]) hX ok_H_ofStroke rfl ?_
                refine kx_U (as := [.int x2]) hq14 hX ok_H_ofStroke (nx := 98) rfl (l_H_85 (gS_k hq14)) (fun _ => s_Vpart (G := G) (d := 0) (Nat.le_refl _) C I (hT C x1.toNatClampNeg) x2 hq14 _ rfl) (by omega) rfl (rest := []) rfl (Nat.le_of_ble_eq_true rfl) ⟨Nat.le_of_ble_eq_true rfl, Nat.le_of_ble_eq_true rfl⟩ ?_
                show _ → kW G X m_H_ofStroke C I 0 0 98 [.ref 0, .int x1, .int x2] [.int (M_Vpart C I (hT C x1.toNatClampNeg) x2)]
                intro h; have h := Option.some.inj h; subst h
                exact kx_iret hX hE ok_H_ofStroke (nx := 99) rfl rfl ⟨Nat.le_of_ble_eq_true rfl, Nat.le_of_ble_eq_true rfl⟩
              · refine kx_sw (fun c15 => ?_) (fun c15 => ?_)
                · refine kx_go 1 (pc' := 86) (lv' := [.ref 0, .int x1, .int x2]) (st' := [.ref 0]) hX ok_H_ofStroke rfl ?_
                  refine kx_getp hX ok_H_ofStroke rfl (q := 1) (nx := 89) rfl ?_
                  refine kx_getp hX ok_H_ofStroke rfl (q := 2) (nx := 92) rfl ?_
                  refine kx_go 1 (pc' := 93) (lv' := [.ref 0, .int x1, .int x2]) (st' := [.int x1, .ref 2]) hX ok_H_ofStroke rfl ?_
                  refine kx_aaT hX ok_H_ofStroke (nx := 94) rfl (fun bhq16 hq16 => ?_)
                  refine kx_go 1 (pc' := 95) (lv' := [.ref 0, .int x1, .int x2]) (st' := [.int x2, .ref (hT C x1.toNatClampNeg)]) hX ok_H_ofStroke rfl ?_
                  refine kx_U (as := [.int x2]) hq16 hX ok_H_ofStroke (nx := 98) rfl (l_H_85 (gS_k hq16)) (fun _ => s_Vpart (G := G) (d := 0) (Nat.le_refl _) C I (hT C x1.toNatClampNeg) x2 hq16 _ rfl) (by omega) rfl (rest := []) rfl (Nat.le_of_ble_eq_true rfl) ⟨Nat.le_of_ble_eq_true rfl, Nat.le_of_ble_eq_true rfl⟩ ?_
                  show _ → kW G X m_H_ofStroke C I 0 0 98 [.ref 0, .int x1, .int x2] [.int (M_Vpart C I (hT C x1.toNatClampNeg) x2)]
                  intro h; have h := Option.some.inj h; subst h
                  exact kx_iret hX hE ok_H_ofStroke (nx := 99) rfl rfl ⟨Nat.le_of_ble_eq_true rfl, Nat.le_of_ble_eq_true rfl⟩
                · refine kx_sw (fun c17 => ?_) (fun c17 => ?_)
                  · refine kx_go 1 (pc' := 100) (lv' := [.ref 0, .int x1, .int x2]) (st' := [.ref 0]) hX ok_H_ofStroke rfl ?_
                    refine kx_getp hX ok_H_ofStroke rfl (q := 1) (nx := 103) rfl ?_
                    refine kx_go 1 (pc' := 104) (lv' := [.ref 0, .int x1, .int x2]) (st' := [.int x1, .ref 1]) hX ok_H_ofStroke rfl ?_
                    refine kx_bind (fun p18 hp18 => ?_)
                    refine kx_V (r := 1) (as := [.int x1]) (by decide) hX ok_H_ofStroke (nx := 107) rfl l_H_88 (by decide) rfl (fun _ => s_Wall_earlyOf (G := G) (d := 4) (Nat.le_refl _) C I x1 p18 hp18) (by omega) rfl (rest := []) rfl (Nat.le_of_ble_eq_true rfl) ⟨Nat.le_of_ble_eq_true rfl, Nat.le_of_ble_eq_true rfl⟩ ?_
                    show _ → kW G X m_H_ofStroke C p18.2 0 0 107 [.ref 0, .int x1, .int x2] [.int p18.1]
                    intro h; have h := Option.some.inj h; subst h
                    exact kx_iret hX hE ok_H_ofStroke (nx := 108) rfl rfl ⟨Nat.le_of_ble_eq_true rfl, Nat.le_of_ble_eq_true rfl⟩
                  · refine kx_sw (fun c19 => ?_) (fun c19 => ?_)
                    · refine kx_go 1 (pc' := 109) (lv' := [.ref 0, .int x1, .int x2]) (st' := [.ref 0]) hX ok_H_ofStroke rfl ?_
                      refine kx_getp hX ok_H_ofStroke rfl (q := 1) (nx := 112) rfl ?_
                      refine kx_go 1 (pc' := 113) (lv' := [.ref 0, .int x1, .int x2]) (st' := [.int x1, .ref 1]) hX ok_H_ofStroke rfl ?_
                      refine kx_bind (fun p20 hp20 => ?_)
                      refine kx_V (r := 1) (as := [.int x1]) (by decide) hX ok_H_ofStroke (nx := 116) rfl l_H_91 (by decide) rfl (fun _ => s_Wall_lateOf (G := G) (d := 4) (Nat.le_refl _) C I x1 p20 hp20) (by omega) rfl (rest := []) rfl (Nat.le_of_ble_eq_true rfl) ⟨Nat.le_of_ble_eq_true rfl, Nat.le_of_ble_eq_true rfl⟩ ?_
                      show _ → kW G X m_H_ofStroke C p20.2 0 0 116 [.ref 0, .int x1, .int x2] [.int p20.1]
                      intro h; have h := Option.some.inj h; subst h
                      exact kx_iret hX hE ok_H_ofStroke (nx := 117) rfl rfl ⟨Nat.le_of_ble_eq_true rfl, Nat.le_of_ble_eq_true rfl⟩
                    · refine kx_sw (fun c21 => ?_) (fun c21 => ?_)
                      · refine kx_go 1 (pc' := 118) (lv' := [.ref 0, .int x1, .int x2]) (st' := [.ref 0]) hX ok_H_ofStroke rfl ?_
                        refine kx_getp hX ok_H_ofStroke rfl (q := 1) (nx := 121) rfl ?_
                        refine kx_getp hX ok_H_ofStroke rfl (q := 2) (nx := 124) rfl ?_
                        refine kx_go 1 (pc' := 125) (lv' := [.ref 0, .int x1, .int x2]) (st' := [.int x1, .ref 2]) hX ok_H_ofStroke rfl ?_
                        refine kx_aaT hX ok_H_ofStroke (nx := 126) rfl (fun bhq22 hq22 => ?_)
                        refine kx_U (as := []) hq22 hX ok_H_ofStroke (nx := 129) rfl (l_H_94 (gS_k hq22)) (fun _ => s_Vstuff (G := G) (d := 0) (Nat.le_refl _) C I (hT C x1.toNatClampNeg) hq22 _ rfl) (by omega) rfl (rest := []) rfl (Nat.le_of_ble_eq_true rfl) ⟨Nat.le_of_ble_eq_true rfl, Nat.le_of_ble_eq_true rfl⟩ ?_
                        show _ → kW G X m_H_ofStroke C I 0 0 129 [.ref 0, .int x1, .int x2] [.int (M_Vstuff C (hT C x1.toNatClampNeg))]
                        intro h; have h := Option.some.inj h; subst h
                        exact kx_iret hX hE ok_H_ofStroke (nx := 130) rfl rfl ⟨Nat.le_of_ble_eq_true rfl, Nat.le_of_ble_eq_true rfl⟩
                      · refine kx_sw0 ?_
                        refine kx_go 2 (pc' := 132) (lv' := [.ref 0, .int x1, .int x2]) (st' := [.int (1 : Int32), .ref 0]) hX ok_H_ofStroke rfl ?_
                        refine kx_bind (fun p23 hp23 => ?_)
                        refine kx_V (r := 0) (as := [.int (1 : Int32)]) (by decide) hX ok_H_ofStroke (nx := 135) rfl l_H_60 (by decide) rfl (fun _ => s_H_error (G := G) (d := 0) (Nat.le_refl _) C I (1 : Int32) p23 hp23) (by omega) rfl (rest := []) rfl (Nat.le_of_ble_eq_true rfl) ⟨Nat.le_of_ble_eq_true rfl, Nat.le_of_ble_eq_true rfl⟩ ?_
                        show _ → kW G X m_H_ofStroke C p23.2 0 0 135 [.ref 0, .int x1, .int x2] [.int p23.1]
                        intro h; have h := Option.some.inj h; subst h
                        exact kx_iret hX hE ok_H_ofStroke (nx := 136) rfl rfl ⟨Nat.le_of_ble_eq_true rfl, Nat.le_of_ble_eq_true rfl⟩
def M_Stroke_setPart (I : HI) (q0 : Nat) (x1 : Int32) (x2 : Int32) : HI := if x1 = (2 : Int32) then (lt (xu I q0 2 x2) fun J2 => J2) else (if x1 = (3 : Int32) then (lt (xu I q0 3 x2) fun J4 => J4) else (if x1 = (4 : Int32) then (lt (xu I q0 4 x2) fun J6 => J6) else (if x1 = (5 : Int32) then (lt (xu I q0 5 x2) fun J8 => J8) else (lt (xu I q0 6 x2) fun J9 => J9))))
theorem s_Stroke_setPart {G : xG} {d : Nat} (hd : 0 ≤ d) (C : HC) (I : HI) (q0 : Nat) (x1 : Int32) (x2 : Int32) (hq0 : gS C q0 = true) (r : HI) : M_Stroke_setPart I q0 x1 x2 = r → kM G d m_Stroke_setPart [.ref q0, .int x1, .int x2] C I 0 0 none C r := by
  unfold M_Stroke_setPart
  refine kM.of (by decide +kernel) (Nat.le_of_ble_eq_true rfl) (lv := [.ref q0, .int x1, .int x2]) rfl (fun X hX hE => ?_)
  refine kx_go 2 (pc' := xtsw x1 [((2 : Int32), 32), ((3 : Int32), 40), ((4 : Int32), 48), ((5 : Int32), 56)] 64) (lv' := [.ref q0, .int x1, .int x2]) (st' := []) hX ok_Stroke_setPart rfl ?_
  refine kx_sw (fun c1 => ?_) (fun c1 => ?_)
  · refine kx_go 2 (pc' := 34) (lv' := [.ref q0, .int x1, .int x2]) (st' := [.int x2, .ref q0]) hX ok_Stroke_setPart rfl ?_
    refine kx_puts hq0 hX ok_Stroke_setPart rfl (k := 2) (nx := 37) rfl ?_
    refine kx_lt (Q := fun J2 => kW G X m_Stroke_setPart C J2 0 0 37 [.ref q0, .int x1, .int x2] []) (fun J2 eJ2 => ?_)
    refine kx_go 1 (pc' := 69) (lv' := [.ref q0, .int x1, .int x2]) (st' := []) hX ok_Stroke_setPart rfl ?_
    rintro rfl
    exact kx_vret hX hE ok_Stroke_setPart (nx := 70) rfl rfl ⟨Nat.le_of_ble_eq_true rfl, Nat.le_of_ble_eq_true rfl⟩
  · refine kx_sw (fun c3 => ?_) (fun c3 => ?_)
    · refine kx_go 2 (pc' := 42) (lv' := [.ref q0, .int x1, .int x2]) (st' := [.int x2, .ref q0]) hX ok_Stroke_setPart rfl ?_
      refine kx_puts hq0 hX ok_Stroke_setPart rfl (k := 3) (nx := 45) rfl ?_
      refine kx_lt (Q := fun J4 => kW G X m_Stroke_setPart C J4 0 0 45 [.ref q0, .int x1, .int x2] []) (fun J4 eJ4 => ?_)
      refine kx_go 1 (pc' := 69) (lv' := [.ref q0, .int x1, .int x2]) (st' := []) hX ok_Stroke_setPart rfl ?_
      rintro rfl
      exact kx_vret hX hE ok_Stroke_setPart (nx := 70) rfl rfl ⟨Nat.le_of_ble_eq_true rfl, Nat.le_of_ble_eq_true rfl⟩
    · refine kx_sw (fun c5 => ?_) (fun c5 => ?_)
      · refine kx_go 2 (pc' := 50) (lv' := [.ref q0, .int x1, .int x2]) (st' := [.int x2, .ref q0]) hX ok_Stroke_setPart rfl ?_
        refine kx_puts hq0 hX ok_Stroke_setPart rfl (k := 4) (nx := 53) rfl ?_
        refine kx_lt (Q := fun J6 => kW G X m_Stroke_setPart C J6 0 0 53 [.ref q0, .int x1, .int x2] []) (fun J6 eJ6 => ?_)
        refine kx_go 1 (pc' := 69) (lv' := [.ref q0, .int x1, .int x2]) (st' := []) hX ok_Stroke_setPart rfl ?_
        rintro rfl
        exact kx_vret hX hE ok_Stroke_setPart (nx := 70) rfl rfl ⟨Nat.le_of_ble_eq_true rfl, Nat.le_of_ble_eq_true rfl⟩
      · refine kx_sw (fun c7 => ?_) (fun c7 => ?_)
        · refine kx_go 2 (pc' := 58) (lv' := [.ref q0, .int x1, .int x2]) (st' := [.int x2, .ref q0]) hX ok_Stroke_setPart rfl ?_
          refine kx_puts hq0 hX ok_Stroke_setPart rfl (k := 5) (nx := 61) rfl ?_
          refine kx_lt (Q := fun J8 => kW G X m_Stroke_setPart C J8 0 0 61 [.ref q0, .int x1, .int x2] []) (fun J8 eJ8 => ?_)
          refine kx_go 1 (pc' := 69) (lv' := [.ref q0, .int x1, .int x2]) (st' := []) hX ok_Stroke_setPart rfl ?_
          rintro rfl
          exact kx_vret hX hE ok_Stroke_setPart (nx := 70) rfl rfl ⟨Nat.le_of_ble_eq_true rfl, Nat.le_of_ble_eq_true rfl⟩
        · refine kx_sw0 ?_
          refine kx_go 2 (pc' := 66) (lv' := [.ref q0, .int x1, .int x2]) (st' := [.int x2, .ref q0]) hX ok_Stroke_setPart rfl ?_
          refine kx_puts hq0 hX ok_Stroke_setPart rfl (k := 6) (nx := 69) rfl ?_
          refine kx_lt (Q := fun J9 => kW G X m_Stroke_setPart C J9 0 0 69 [.ref q0, .int x1, .int x2] []) (fun J9 eJ9 => ?_)
          rintro rfl
          exact kx_vret hX hE ok_Stroke_setPart (nx := 70) rfl rfl ⟨Nat.le_of_ble_eq_true rfl, Nat.le_of_ble_eq_true rfl⟩
def M_VsetPart (C : HC) (I : HI) (q0 : Nat) (x1 : Int32) (x2 : Int32) : HI := if kc C q0 = 0 then M_Stroke_setPart I q0 x1 x2 else if kc C q0 = 1 then M_Stroke_setPart I q0 x1 x2 else if kc C q0 = 2 then M_Stroke_setPart I q0 x1 x2 else if kc C q0 = 3 then M_Stroke_setPart I q0 x1 x2 else if kc C q0 = 4 then M_Stroke_setPart I q0 x1 x2 else if kc C q0 = 5 then M_Stroke_setPart I q0 x1 x2 else M_Stroke_setPart I q0 x1 x2
theorem s_VsetPart {G : xG} {d : Nat} (hd : 0 ≤ d) (C : HC) (I : HI) (q0 : Nat) (x1 : Int32) (x2 : Int32) (hq0 : gS C q0 = true) (r : HI) : M_VsetPart C I q0 x1 x2 = r → kM G d (sel_setPart (kc C q0)) [.ref q0, .int x1, .int x2] C I 0 0 none C r := by
  unfold M_VsetPart
  refine kx_if (fun h0 => ?_) (fun h0 => ?_)
  · rw [show sel_setPart (kc C q0) = m_Stroke_setPart by rw [h0]; rfl]
    exact s_Stroke_setPart (by omega) C I q0 x1 x2 hq0 _
  ·
    refine kx_if (fun h1 => ?_) (fun h1 => ?_)
    · rw [show sel_setPart (kc C q0) = m_Stroke_setPart by rw [h1]; rfl]
      exact s_Stroke_setPart (by omega) C I q0 x1 x2 hq0 _
    ·
      refine kx_if (fun h2 => ?_) (fun h2 => ?_)
      · rw [show sel_setPart (kc C q0) = m_Stroke_setPart by rw [h2]; rfl]
        exact s_Stroke_setPart (by omega) C I q0 x1 x2 hq0 _
      ·
        refine kx_if (fun h3 => ?_) (fun h3 => ?_)
        · rw [show sel_setPart (kc C q0) = m_Stroke_setPart by rw [h3]; rfl]
          exact s_Stroke_setPart (by omega) C I q0 x1 x2 hq0 _
        ·
          refine kx_if (fun h4 => ?_) (fun h4 => ?_)
          · rw [show sel_setPart (kc C q0) = m_Stroke_setPart by rw [h4]; rfl]
            exact s_Stroke_setPart (by omega) C I q0 x1 x2 hq0 _
          ·
            refine kx_if (fun h5 => ?_) (fun h5 => ?_)
            · rw [show sel_setPart (kc C q0) = m_Stroke_setPart by rw [h5]; rfl]
              exact s_Stroke_setPart (by omega) C I q0 x1 x2 hq0 _
            ·
              have h6 : kc C q0 = 6 := by have := gS_k hq0; omega
              rw [show sel_setPart (kc C q0) = m_Stroke_setPart by rw [h6]; rfl]
              exact s_Stroke_setPart (by omega) C I q0 x1 x2 hq0 _
def M_H_change (C : HC) (I : HI) (x1 : Int32) (x2 : Int32) (x3 : Int32) : Option (Int32 × HI) := if (M_Wall_hasStroke I x1) = (0 : Int32) then (Option.bind (M_H_error I (1 : Int32)) fun p2 => some (p2.1, p2.2)) else (if x2 < (0 : Int32) then (Option.bind (M_H_error I (1 : Int32)) fun p4 => some (p4.1, p4.2)) else (if (7 : Int32) ≤ x2 then (Option.bind (M_H_error I (1 : Int32)) fun p6 => some (p6.1, p6.2)) else (grd (bnd x2 7) (if (M_Wall_within x3 (I 1000001 x2.toNatClampNeg)) = (0 : Int32) then (Option.bind (M_H_error I (1 : Int32)) fun p9 => some (p9.1, p9.2)) else (grd (bnd x1 8 && gS C (hT C x1.toNatClampNeg)) (lt (M_VsetPart C I (hT C x1.toNatClampNeg) x2 x3) fun p11 => some ((M_Vpart C I (hT C x1.toNatClampNeg) x2), p11)))))))
theorem s_H_change {G : xG} {d : Nat} (hd : 1 ≤ d) (C : HC) (I : HI) (x1 : Int32) (x2 : Int32) (x3 : Int32)  (r : Int32 × HI) : M_H_change C I x1 x2 x3 = some r → kM G d m_H_change [.ref 0, .int x1, .int x2, .int x3] C I 0 0 (some (.int r.1)) C r.2 := by
  unfold M_H_change
  refine kM.of (by decide +kernel) (Nat.le_of_ble_eq_true rfl) (lv := [.ref 0, .int x1, .int x2, .int x3, .null]) rfl (fun X hX hE => ?_)
  refine kx_go 1 (pc' := 1) (lv' := [.ref 0, .int x1, .int x2, .int x3, .null]) (st' := [.ref 0]) hX ok_H_change rfl ?_
  refine kx_getp hX ok_H_change rfl (q := 1) (nx := 4) rfl ?_
  refine kx_go 1 (pc' := 5) (lv' := [.ref 0, .int x1, .int x2, .int x3, .null]) (st' := [.int x1, .ref 1]) hX ok_H_change rfl ?_
  refine kx_V (r := 1) (as := [.int x1]) (by decide) hX ok_H_change (nx := 8) rfl l_H_71 (by decide) rfl (fun _ => s_Wall_hasStroke (G := G) (d := 0) (Nat.le_refl _) C I x1 _ rfl) (by omega) rfl (rest := []) rfl (Nat.le_of_ble_eq_true rfl) ⟨Nat.le_of_ble_eq_true rfl, Nat.le_of_ble_eq_true rfl⟩ ?_
  show _ → kW G X m_H_change C I 0 0 8 [.ref 0, .int x1, .int x2, .int x3, .null] [.int (M_Wall_hasStroke I x1)]
  refine kx_go 1 (pc' := if (M_Wall_hasStroke I x1) = (0 : Int32) then 35 else 11) (lv' := [.ref 0, .int x1, .int x2, .int x3, .null]) (st' := []) hX ok_H_change rfl ?_
  refine kx_ite (fun c1 => ?_) (fun c1 => ?_)
  · refine kx_go 2 (pc' := 37) (lv' := [.ref 0, .int x1, .int x2, .int x3, .null]) (st' := [.int (1 : Int32), .ref 0]) hX ok_H_change rfl ?_
    refine kx_bind (fun p2 hp2 => ?_)
    refine kx_V (r := 0) (as := [.int (1 : Int32)]) (by decide) hX ok_H_change (nx := 40) rfl l_H_60 (by decide) rfl (fun _ => s_H_error (G := G) (d := 0) (Nat.le_refl _) C I (1 : Int32) p2 hp2) (by omega) rfl (rest := []) rfl (Nat.le_of_ble_eq_true rfl) ⟨Nat.le_of_ble_eq_true rfl, Nat.le_of_ble_eq_true rfl⟩ ?_
    show _ → kW G X m_H_change C p2.2 0 0 40 [.ref 0, .int x1, .int x2, .int x3, .null] [.int p2.1]
    intro h; have h := Option.some.inj h; subst h
    exact kx_iret hX hE ok_H_change (nx := 41) rfl rfl ⟨Nat.le_of_ble_eq_true rfl, Nat.le_of_ble_eq_true rfl⟩
  · refine kx_go 2 (pc' := if x2 < (0 : Int32) then 35 else 15) (lv' := [.ref 0, .int x1, .int x2, .int x3, .null]) (st' := []) hX ok_H_change rfl ?_
    refine kx_ite (fun c3 => ?_) (fun c3 => ?_)
    · refine kx_go 2 (pc' := 37) (lv' := [.ref 0, .int x1, .int x2, .int x3, .null]) (st' := [.int (1 : Int32), .ref 0]) hX ok_H_change rfl ?_
      refine kx_bind (fun p4 hp4 => ?_)
      refine kx_V (r := 0) (as := [.int (1 : Int32)]) (by decide) hX ok_H_change (nx := 40) rfl l_H_60 (by decide) rfl (fun _ => s_H_error (G := G) (d := 0) (Nat.le_refl _) C I (1 : Int32) p4 hp4) (by omega) rfl (rest := []) rfl (Nat.le_of_ble_eq_true rfl) ⟨Nat.le_of_ble_eq_true rfl, Nat.le_of_ble_eq_true rfl⟩ ?_
      show _ → kW G X m_H_change C p4.2 0 0 40 [.ref 0, .int x1, .int x2, .int x3, .null] [.int p4.1]
      intro h; have h := Option.some.inj h; subst h
      exact kx_iret hX hE ok_H_change (nx := 41) rfl rfl ⟨Nat.le_of_ble_eq_true rfl, Nat.le_of_ble_eq_true rfl⟩
    · refine kx_go 1 (pc' := 16) (lv' := [.ref 0, .int x1, .int x2, .int x3, .null]) (st' := [.int x2]) hX ok_H_change rfl ?_
      refine kx_gst hX ok_H_change rfl (nx := 19) rfl ?_
      refine kx_olen (j := 1) (by decide) (w := 7) rfl hX ok_H_change (nx := 20) rfl (y := (7 : Int32)) rfl ?_
      refine kx_go 1 (pc' := if (7 : Int32) ≤ x2 then 35 else 23) (lv' := [.ref 0, .int x1, .int x2, .int x3, .null]) (st' := []) hX ok_H_change rfl ?_
      refine kx_ite (fun c5 => ?_) (fun c5 => ?_)
      · refine kx_go 2 (pc' := 37) (lv' := [.ref 0, .int x1, .int x2, .int x3, .null]) (st' := [.int (1 : Int32), .ref 0]) hX ok_H_change rfl ?_
        refine kx_bind (fun p6 hp6 => ?_)
        refine kx_V (r := 0) (as := [.int (1 : Int32)]) (by decide) hX ok_H_change (nx := 40) rfl l_H_60 (by decide) rfl (fun _ => s_H_error (G := G) (d := 0) (Nat.le_refl _) C I (1 : Int32) p6 hp6) (by omega) rfl (rest := []) rfl (Nat.le_of_ble_eq_true rfl) ⟨Nat.le_of_ble_eq_true rfl, Nat.le_of_ble_eq_true rfl⟩ ?_
        show _ → kW G X m_H_change C p6.2 0 0 40 [.ref 0, .int x1, .int x2, .int x3, .null] [.int p6.1]
        intro h; have h := Option.some.inj h; subst h
        exact kx_iret hX hE ok_H_change (nx := 41) rfl rfl ⟨Nat.le_of_ble_eq_true rfl, Nat.le_of_ble_eq_true rfl⟩
      · refine kx_go 1 (pc' := 24) (lv' := [.ref 0, .int x1, .int x2, .int x3, .null]) (st' := [.int x3]) hX ok_H_change rfl ?_
        refine kx_gst hX ok_H_change rfl (nx := 27) rfl ?_
        refine kx_go 1 (pc' := 28) (lv' := [.ref 0, .int x1, .int x2, .int x3, .null]) (st' := [.int x2, .ref 1000001, .int x3]) hX ok_H_change rfl ?_
        refine kx_oald (j := 1) (by decide) (w := 7) rfl hX ok_H_change (nx := 29) rfl (fun b7 => ?_)
        refine kx_S (as := [.int x3, .int (I 1000001 x2.toNatClampNeg)]) hX ok_H_change (nx := 32) rfl l_H_56 (fun _ => s_Wall_within (G := G) (d := 0) (Nat.le_refl _) C I x3 (I 1000001 x2.toNatClampNeg) _ rfl) (by omega) rfl (rest := []) rfl (Nat.le_of_ble_eq_true rfl) ⟨Nat.le_of_ble_eq_true rfl, Nat.le_of_ble_eq_true rfl⟩ ?_
        show _ → kW G X m_H_change C I 0 0 32 [.ref 0, .int x1, .int x2, .int x3, .null] [.int (M_Wall_within x3 (I 1000001 x2.toNatClampNeg))]
        refine kx_go 1 (pc' := if (M_Wall_within x3 (I 1000001 x2.toNatClampNeg)) = (0 : Int32) then 35 else 41) (lv' := [.ref 0, .int x1, .int x2, .int x3, .null]) (st' := []) hX ok_H_change rfl ?_
        refine kx_ite (fun c8 => ?_) (fun c8 => ?_)
        · refine kx_go 2 (pc' := 37) (lv' := [.ref 0, .int x1, .int x2, .int x3, .null]) (st' := [.int (1 : Int32), .ref 0]) hX ok_H_change rfl ?_
          refine kx_bind (fun p9 hp9 => ?_)
          refine kx_V (r := 0) (as := [.int (1 : Int32)]) (by decide) hX ok_H_change (nx := 40) rfl l_H_60 (by decide) rfl (fun _ => s_H_error (G := G) (d := 0) (Nat.le_refl _) C I (1 : Int32) p9 hp9) (by omega) rfl (rest := []) rfl (Nat.le_of_ble_eq_true rfl) ⟨Nat.le_of_ble_eq_true rfl, Nat.le_of_ble_eq_true rfl⟩ ?_
          show _ → kW G X m_H_change C p9.2 0 0 40 [.ref 0, .int x1, .int x2, .int x3, .null] [.int p9.1]
          intro h; have h := Option.some.inj h; subst h
          exact kx_iret hX hE ok_H_change (nx := 41) rfl rfl ⟨Nat.le_of_ble_eq_true rfl, Nat.le_of_ble_eq_true rfl⟩
        · refine kx_go 1 (pc' := 42) (lv' := [.ref 0, .int x1, .int x2, .int x3, .null]) (st' := [.ref 0]) hX ok_H_change rfl ?_
          refine kx_getp hX ok_H_change rfl (q := 1) (nx := 45) rfl ?_
          refine kx_getp hX ok_H_change rfl (q := 2) (nx := 48) rfl ?_
          refine kx_go 1 (pc' := 49) (lv' := [.ref 0, .int x1, .int x2, .int x3, .null]) (st' := [.int x1, .ref 2]) hX ok_H_change rfl ?_
          refine kx_aaT hX ok_H_change (nx := 50) rfl (fun bhq10 hq10 => ?_)
          refine kx_go 1 (pc' := 51) (lv' := [.ref 0, .int x1, .int x2, .int x3, .null]) (st' := [.int x2, .ref (hT C x1.toNatClampNeg)]) hX ok_H_change rfl ?_
          refine kx_U (as := [.int x2]) hq10 hX ok_H_change (nx := 54) rfl (l_H_85 (gS_k hq10)) (fun _ => s_Vpart (G := G) (d := 0) (Nat.le_refl _) C I (hT C x1.toNatClampNeg) x2 hq10 _ rfl) (by omega) rfl (rest := []) rfl (Nat.le_of_ble_eq_true rfl) ⟨Nat.le_of_ble_eq_true rfl, Nat.le_of_ble_eq_true rfl⟩ ?_
          show _ → kW G X m_H_change C I 0 0 54 [.ref 0, .int x1, .int x2, .int x3, .null] [.int (M_Vpart C I (hT C x1.toNatClampNeg) x2)]
          refine kx_go 2 (pc' := 57) (lv' := [.ref 0, .int x1, .int x2, .int x3, .int (M_Vpart C I (hT C x1.toNatClampNeg) x2)]) (st' := [.ref 0]) hX ok_H_change rfl ?_
          refine kx_getp hX ok_H_change rfl (q := 1) (nx := 60) rfl ?_
          refine kx_getp hX ok_H_change rfl (q := 2) (nx := 63) rfl ?_
          refine kx_go 1 (pc' := 64) (lv' := [.ref 0, .int x1, .int x2, .int x3, .int (M_Vpart C I (hT C x1.toNatClampNeg) x2)]) (st' := [.int x1, .ref 2]) hX ok_H_change rfl ?_
          refine kx_aaTk bhq10 hX ok_H_change (nx := 65) rfl ?_
          refine kx_go 2 (pc' := 67) (lv' := [.ref 0, .int x1, .int x2, .int x3, .int (M_Vpart C I (hT C x1.toNatClampNeg) x2)]) (st' := [.int x3, .int x2, .ref (hT C x1.toNatClampNeg)]) hX ok_H_change rfl ?_
          refine kx_lti (fun p11 hp11 => ?_)
          refine kx_U (as := [.int x2, .int x3]) hq10 hX ok_H_change (nx := 70) rfl (l_H_100 (gS_k hq10)) (fun _ => s_VsetPart (G := G) (d := 0) (Nat.le_refl _) C I (hT C x1.toNatClampNeg) x2 x3 hq10 p11 hp11) (by omega) rfl (rest := []) rfl (Nat.le_of_ble_eq_true rfl) ⟨Nat.le_of_ble_eq_true rfl, Nat.le_of_ble_eq_true rfl⟩ ?_
          show _ → kW G X m_H_change C p11 0 0 70 [.ref 0, .int x1, .int x2, .int x3, .int (M_Vpart C I (hT C x1.toNatClampNeg) x2)] []
          refine kx_go 1 (pc' := 72) (lv' := [.ref 0, .int x1, .int x2, .int x3, .int (M_Vpart C I (hT C x1.toNatClampNeg) x2)]) (st' := [.int (M_Vpart C I (hT C x1.toNatClampNeg) x2)]) hX ok_H_change rfl ?_
          intro h; have h := Option.some.inj h; subst h
          exact kx_iret hX hE ok_H_change (nx := 73) rfl rfl ⟨Nat.le_of_ble_eq_true rfl, Nat.le_of_ble_eq_true rfl⟩
def M_Stroke_copyFrom (I : HI) (q0 : Nat) (q1 : Nat) : HI := lt (xu I q0 0 (I q1 0)) fun J1 => lt (xu J1 q0 1 (J1 q1 1)) fun J2 => lt (xu J2 q0 2 (J2 q1 2)) fun J3 => lt (xu J3 q0 3 (J3 q1 3)) fun J4 => lt (xu J4 q0 4 (J4 q1 4)) fun J5 => lt (xu J5 q0 5 (J5 q1 5)) fun J6 => lt (xu J6 q0 6 (J6 q1 6)) fun J7 => J7
theorem s_Stroke_copyFrom {G : xG} {d : Nat} (hd : 0 ≤ d) (C : HC) (I : HI) (q0 : Nat) (q1 : Nat) (hq0 : gS C q0 = true) (hq1 : gS C q1 = true) (r : HI) : M_Stroke_copyFrom I q0 q1 = r → kM G d m_Stroke_copyFrom [.ref q0, .ref q1] C I 0 0 none C r := by
  unfold M_Stroke_copyFrom
  refine kM.of (by decide +kernel) (Nat.le_of_ble_eq_true rfl) (lv := [.ref q0, .ref q1]) rfl (fun X hX hE => ?_)
  refine kx_go 2 (pc' := 2) (lv' := [.ref q0, .ref q1]) (st' := [.ref q1, .ref q0]) hX ok_Stroke_copyFrom rfl ?_
  refine kx_gets hq1 hX ok_Stroke_copyFrom rfl (k := 0) (nx := 5) rfl ?_
  refine kx_puts hq0 hX ok_Stroke_copyFrom rfl (k := 0) (nx := 8) rfl ?_
  refine kx_lt (Q := fun J1 => kW G X m_Stroke_copyFrom C J1 0 0 8 [.ref q0, .ref q1] []) (fun J1 eJ1 => ?_)
  refine kx_go 2 (pc' := 10) (lv' := [.ref q0, .ref q1]) (st' := [.ref q1, .ref q0]) hX ok_Stroke_copyFrom rfl ?_
  refine kx_gets hq1 hX ok_Stroke_copyFrom rfl (k := 1) (nx := 13) rfl ?_
  refine kx_puts hq0 hX ok_Stroke_copyFrom rfl (k := 1) (nx := 16) rfl ?_
  refine kx_lt (Q := fun J2 => kW G X m_Stroke_copyFrom C J2 0 0 16 [.ref q0, .ref q1] []) (fun J2 eJ2 => ?_)
  refine kx_go 2 (pc' := 18) (lv' := [.ref q0, .ref q1]) (st' := [.ref q1, .ref q0]) hX ok_Stroke_copyFrom rfl ?_
  refine kx_gets hq1 hX ok_Stroke_copyFrom rfl (k := 2) (nx := 21) rfl ?_
  refine kx_puts hq0 hX ok_Stroke_copyFrom rfl (k := 2) (nx := 24) rfl ?_
  refine kx_lt (Q := fun J3 => kW G X m_Stroke_copyFrom C J3 0 0 24 [.ref q0, .ref q1] []) (fun J3 eJ3 => ?_)
  refine kx_go 2 (pc' := 26) (lv' := [.ref q0, .ref q1]) (st' := [.ref q1, .ref q0]) hX ok_Stroke_copyFrom rfl ?_
  refine kx_gets hq1 hX ok_Stroke_copyFrom rfl (k := 3) (nx := 29) rfl ?_
  refine kx_puts hq0 hX ok_Stroke_copyFrom rfl (k := 3) (nx := 32) rfl ?_
  refine kx_lt (Q := fun J4 => kW G X m_Stroke_copyFrom C J4 0 0 32 [.ref q0, .ref q1] []) (fun J4 eJ4 => ?_)
  refine kx_go 2 (pc' := 34) (lv' := [.ref q0, .ref q1]) (st' := [.ref q1, .ref q0]) hX ok_Stroke_copyFrom rfl ?_
  refine kx_gets hq1 hX ok_Stroke_copyFrom rfl (k := 4) (nx := 37) rfl ?_
  refine kx_puts hq0 hX ok_Stroke_copyFrom rfl (k := 4) (nx := 40) rfl ?_
  refine kx_lt (Q := fun J5 => kW G X m_Stroke_copyFrom C J5 0 0 40 [.ref q0, .ref q1] []) (fun J5 eJ5 => ?_)
  refine kx_go 2 (pc' := 42) (lv' := [.ref q0, .ref q1]) (st' := [.ref q1, .ref q0]) hX ok_Stroke_copyFrom rfl ?_
  refine kx_gets hq1 hX ok_Stroke_copyFrom rfl (k := 5) (nx := 45) rfl ?_
  refine kx_puts hq0 hX ok_Stroke_copyFrom rfl (k := 5) (nx := 48) rfl ?_
  refine kx_lt (Q := fun J6 => kW G X m_Stroke_copyFrom C J6 0 0 48 [.ref q0, .ref q1] []) (fun J6 eJ6 => ?_)
  refine kx_go 2 (pc' := 50) (lv' := [.ref q0, .ref q1]) (st' := [.ref q1, .ref q0]) hX ok_Stroke_copyFrom rfl ?_
  refine kx_gets hq1 hX ok_Stroke_copyFrom rfl (k := 6) (nx := 53) rfl ?_
  refine kx_puts hq0 hX ok_Stroke_copyFrom rfl (k := 6) (nx := 56) rfl ?_
  refine kx_lt (Q := fun J7 => kW G X m_Stroke_copyFrom C J7 0 0 56 [.ref q0, .ref q1] []) (fun J7 eJ7 => ?_)
  rintro rfl
  exact kx_vret hX hE ok_Stroke_copyFrom (nx := 57) rfl rfl ⟨Nat.le_of_ble_eq_true rfl, Nat.le_of_ble_eq_true rfl⟩
def M_VcopyFrom (C : HC) (I : HI) (q0 : Nat) (q1 : Nat) : HI := if kc C q0 = 0 then M_Stroke_copyFrom I q0 q1 else if kc C q0 = 1 then M_Stroke_copyFrom I q0 q1 else if kc C q0 = 2 then M_Stroke_copyFrom I q0 q1 else if kc C q0 = 3 then M_Stroke_copyFrom I q0 q1 else if kc C q0 = 4 then M_Stroke_copyFrom I q0 q1 else if kc C q0 = 5 then M_Stroke_copyFrom I q0 q1 else M_Stroke_copyFrom I q0 q1
theorem s_VcopyFrom {G : xG} {d : Nat} (hd : 0 ≤ d) (C : HC) (I : HI) (q0 : Nat) (q1 : Nat) (hq0 : gS C q0 = true) (hq1 : gS C q1 = true) (r : HI) : M_VcopyFrom C I q0 q1 = r → kM G d (sel_copyFrom (kc C q0)) [.ref q0, .ref q1] C I 0 0 none C r := by
  unfold M_VcopyFrom
  refine kx_if (fun h0 => ?_) (fun h0 => ?_)
  · rw [show sel_copyFrom (kc C q0) = m_Stroke_copyFrom by rw [h0]; rfl]
    exact s_Stroke_copyFrom (by omega) C I q0 q1 hq0 hq1 _
  ·
    refine kx_if (fun h1 => ?_) (fun h1 => ?_)
    · rw [show sel_copyFrom (kc C q0) = m_Stroke_copyFrom by rw [h1]; rfl]
      exact s_Stroke_copyFrom (by omega) C I q0 q1 hq0 hq1 _
    ·
      refine kx_if (fun h2 => ?_) (fun h2 => ?_)
      · rw [show sel_copyFrom (kc C q0) = m_Stroke_copyFrom by rw [h2]; rfl]
        exact s_Stroke_copyFrom (by omega) C I q0 q1 hq0 hq1 _
      ·
        refine kx_if (fun h3 => ?_) (fun h3 => ?_)
        · rw [show sel_copyFrom (kc C q0) = m_Stroke_copyFrom by rw [h3]; rfl]
          exact s_Stroke_copyFrom (by omega) C I q0 q1 hq0 hq1 _
        ·
          refine kx_if (fun h4 => ?_) (fun h4 => ?_)
          · rw [show sel_copyFrom (kc C q0) = m_Stroke_copyFrom by rw [h4]; rfl]
            exact s_Stroke_copyFrom (by omega) C I q0 q1 hq0 hq1 _
          ·
            refine kx_if (fun h5 => ?_) (fun h5 => ?_)
            · rw [show sel_copyFrom (kc C q0) = m_Stroke_copyFrom by rw [h5]; rfl]
              exact s_Stroke_copyFrom (by omega) C I q0 q1 hq0 hq1 _
            ·
              have h6 : kc C q0 = 6 := by have := gS_k hq0; omega
              rw [show sel_copyFrom (kc C q0) = m_Stroke_copyFrom by rw [h6]; rfl]
              exact s_Stroke_copyFrom (by omega) C I q0 q1 hq0 hq1 _
