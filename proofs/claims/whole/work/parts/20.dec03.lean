def M_Model_ofStroke (I : HI) (x1 : Int32) (x2 : Int32) : Option (Int32 × HI) := if (M_Model_isStroke I x1) = (0 : Int32) then (Option.bind (M_Model_finds I (1 : Int32)) fun p2 => some (p2.1, p2.2)) else (if (M_Model_in (x2.toInt64) (Int64.ofNat 0) (Int64.ofNat 9)) = (0 : Int32) then (Option.bind (M_Model_finds I (1 : Int32)) fun p4 => some (p4.1, p4.2)) else (if (7 : Int32) ≤ x2 then (if x2 = (7 : Int32) then (Option.bind (M_Model_earlyOf I x1) fun p7 => some (p7.1, p7.2)) else (if x2 = (8 : Int32) then (Option.bind (M_Model_lateOf I x1) fun p9 => some (p9.1, p9.2)) else (Option.bind (M_Model_stuff I x1) fun p10 => some (p10, I)))) else (Option.bind (M_Model_of I x1 x2) fun p11 => some (p11, I))))
theorem s_Model_ofStroke {G : xG} {d : Nat} (hd : 52 ≤ d) (C : HC) (I : HI) (x1 : Int32) (x2 : Int32)  (r : Int32 × HI) : M_Model_ofStroke I x1 x2 = some r → kM G d m_Model_ofStroke [.ref 88, .int x1, .int x2] C I 0 0 (some (.int r.1)) C r.2 := by
  unfold M_Model_ofStroke
  refine kM.of (by decide +kernel) (Nat.le_of_ble_eq_true rfl) (lv := [.ref 88, .int x1, .int x2]) rfl (fun X hX hE => ?_)
  refine kx_go 2 (pc' := 2) (lv' := [.ref 88, .int x1, .int x2]) (st' := [.int x1, .ref 88]) hX ok_Model_ofStroke rfl ?_
  refine kx_V (r := 88) (as := [.int x1]) (by decide) hX ok_Model_ofStroke (nx := 5) rfl l_Model_165 (by decide) rfl (fun _ => s_Model_isStroke (G := G) (d := 1) (Nat.le_refl _) C I x1 _ rfl) (by omega) rfl (rest := []) rfl (Nat.le_of_ble_eq_true rfl) ⟨Nat.le_of_ble_eq_true rfl, Nat.le_of_ble_eq_true rfl⟩ ?_
  show _ → kW G X m_Model_ofStroke C I 0 0 5 [.ref 88, .int x1, .int x2] [.int (M_Model_isStroke I x1)]
  refine kx_go 1 (pc' := if (M_Model_isStroke I x1) = (0 : Int32) then 20 else 8) (lv' := [.ref 88, .int x1, .int x2]) (st' := []) hX ok_Model_ofStroke rfl ?_
  refine kx_ite (fun c1 => ?_) (fun c1 => ?_)
  · refine kx_go 2 (pc' := 22) (lv' := [.ref 88, .int x1, .int x2]) (st' := [.int (1 : Int32), .ref 88]) hX ok_Model_ofStroke rfl ?_
    refine kx_bind (fun p2 hp2 => ?_)
    refine kx_V (r := 88) (as := [.int (1 : Int32)]) (by decide) hX ok_Model_ofStroke (nx := 25) rfl l_Model_129 (by decide) rfl (fun _ => s_Model_finds (G := G) (d := 0) (Nat.le_refl _) C I (1 : Int32) p2 hp2) (by omega) rfl (rest := []) rfl (Nat.le_of_ble_eq_true rfl) ⟨Nat.le_of_ble_eq_true rfl, Nat.le_of_ble_eq_true rfl⟩ ?_
    show _ → kW G X m_Model_ofStroke C p2.2 0 0 25 [.ref 88, .int x1, .int x2] [.int p2.1]
    intro h; have h := Option.some.inj h; subst h
    exact kx_iret hX hE ok_Model_ofStroke (nx := 26) rfl rfl ⟨Nat.le_of_ble_eq_true rfl, Nat.le_of_ble_eq_true rfl⟩
  · refine kx_go 4 (pc' := 14) (lv' := [.ref 88, .int x1, .int x2]) (st' := [.long (Int64.ofNat 9), .long (Int64.ofNat 0), .long (x2.toInt64)]) hX ok_Model_ofStroke rfl ?_
    refine kx_S (as := [.long (x2.toInt64), .long (Int64.ofNat 0), .long (Int64.ofNat 9)]) hX ok_Model_ofStroke (nx := 17) rfl l_Model_66 (fun _ => s_Model_in (G := G) (d := 0) (Nat.le_refl _) C I (x2.toInt64) (Int64.ofNat 0) (Int64.ofNat 9) _ rfl) (by omega) rfl (rest := []) rfl (Nat.le_of_ble_eq_true rfl) ⟨Nat.le_of_ble_eq_true rfl, Nat.le_of_ble_eq_true rfl⟩ ?_
    show _ → kW G X m_Model_ofStroke C I 0 0 17 [.ref 88, .int x1, .int x2] [.int (M_Model_in (x2.toInt64) (Int64.ofNat 0) (Int64.ofNat 9))]
    refine kx_go 1 (pc' := if (M_Model_in (x2.toInt64) (Int64.ofNat 0) (Int64.ofNat 9)) = (0 : Int32) then 20 else 26) (lv' := [.ref 88, .int x1, .int x2]) (st' := []) hX ok_Model_ofStroke rfl ?_
    refine kx_ite (fun c3 => ?_) (fun c3 => ?_)
    · refine kx_go 2 (pc' := 22) (lv' := [.ref 88, .int x1, .int x2]) (st' := [.int (1 : Int32), .ref 88]) hX ok_Model_ofStroke rfl ?_
      refine kx_bind (fun p4 hp4 => ?_)
      refine kx_V (r := 88) (as := [.int (1 : Int32)]) (by decide) hX ok_Model_ofStroke (nx := 25) rfl l_Model_129 (by decide) rfl (fun _ => s_Model_finds (G := G) (d := 0) (Nat.le_refl _) C I (1 : Int32) p4 hp4) (by omega) rfl (rest := []) rfl (Nat.le_of_ble_eq_true rfl) ⟨Nat.le_of_ble_eq_true rfl, Nat.le_of_ble_eq_true rfl⟩ ?_
      show _ → kW G X m_Model_ofStroke C p4.2 0 0 25 [.ref 88, .int x1, .int x2] [.int p4.1]
      intro h; have h := Option.some.inj h; subst h
      exact kx_iret hX hE ok_Model_ofStroke (nx := 26) rfl rfl ⟨Nat.le_of_ble_eq_true rfl, Nat.le_of_ble_eq_true rfl⟩
    · refine kx_go 3 (pc' := if (7 : Int32) ≤ x2 then 41 else 32) (lv' := [.ref 88, .int x1, .int x2]) (st' := []) hX ok_Model_ofStroke rfl ?_
      refine kx_ite (fun c5 => ?_) (fun c5 => ?_)
      · refine kx_go 3 (pc' := if x2 = (7 : Int32) then 47 else 55) (lv' := [.ref 88, .int x1, .int x2]) (st' := []) hX ok_Model_ofStroke rfl ?_
        refine kx_ite (fun c6 => ?_) (fun c6 => ?_)
        · refine kx_go 2 (pc' := 49) (lv' := [.ref 88, .int x1, .int x2]) (st' := [.int x1, .ref 88]) hX ok_Model_ofStroke rfl ?_
          refine kx_bind (fun p7 hp7 => ?_)
          refine kx_V (r := 88) (as := [.int x1]) (by decide) hX ok_Model_ofStroke (nx := 52) rfl l_Model_170 (by decide) rfl (fun _ => s_Model_earlyOf (G := G) (d := 51) (Nat.le_refl _) C I x1 p7 hp7) (by omega) rfl (rest := []) rfl (Nat.le_of_ble_eq_true rfl) ⟨Nat.le_of_ble_eq_true rfl, Nat.le_of_ble_eq_true rfl⟩ ?_
          show _ → kW G X m_Model_ofStroke C p7.2 0 0 52 [.ref 88, .int x1, .int x2] [.int p7.1]
          refine kx_go 1 (pc' := 74) (lv' := [.ref 88, .int x1, .int x2]) (st' := [.int p7.1]) hX ok_Model_ofStroke rfl ?_
          intro h; have h := Option.some.inj h; subst h
          exact kx_iret hX hE ok_Model_ofStroke (nx := 75) rfl rfl ⟨Nat.le_of_ble_eq_true rfl, Nat.le_of_ble_eq_true rfl⟩
        · refine kx_go 3 (pc' := if x2 = (8 : Int32) then 61 else 69) (lv' := [.ref 88, .int x1, .int x2]) (st' := []) hX ok_Model_ofStroke rfl ?_
          refine kx_ite (fun c8 => ?_) (fun c8 => ?_)
          · refine kx_go 2 (pc' := 63) (lv' := [.ref 88, .int x1, .int x2]) (st' := [.int x1, .ref 88]) hX ok_Model_ofStroke rfl ?_
            refine kx_bind (fun p9 hp9 => ?_)
            refine kx_V (r := 88) (as := [.int x1]) (by decide) hX ok_Model_ofStroke (nx := 66) rfl l_Model_173 (by decide) rfl (fun _ => s_Model_lateOf (G := G) (d := 51) (Nat.le_refl _) C I x1 p9 hp9) (by omega) rfl (rest := []) rfl (Nat.le_of_ble_eq_true rfl) ⟨Nat.le_of_ble_eq_true rfl, Nat.le_of_ble_eq_true rfl⟩ ?_
            show _ → kW G X m_Model_ofStroke C p9.2 0 0 66 [.ref 88, .int x1, .int x2] [.int p9.1]
            refine kx_go 1 (pc' := 74) (lv' := [.ref 88, .int x1, .int x2]) (st' := [.int p9.1]) hX ok_Model_ofStroke rfl ?_
            intro h; have h := Option.some.inj h; subst h
            exact kx_iret hX hE ok_Model_ofStroke (nx := 75) rfl rfl ⟨Nat.le_of_ble_eq_true rfl, Nat.le_of_ble_eq_true rfl⟩
          · refine kx_go 2 (pc' := 71) (lv' := [.ref 88, .int x1, .int x2]) (st' := [.int x1, .ref 88]) hX ok_Model_ofStroke rfl ?_
            refine kx_bind (fun p10 hp10 => ?_)
            refine kx_V (r := 88) (as := [.int x1]) (by decide) hX ok_Model_ofStroke (nx := 74) rfl l_Model_176 (by decide) rfl (fun _ => s_Model_stuff (G := G) (d := 1) (Nat.le_refl _) C I x1 p10 hp10) (by omega) rfl (rest := []) rfl (Nat.le_of_ble_eq_true rfl) ⟨Nat.le_of_ble_eq_true rfl, Nat.le_of_ble_eq_true rfl⟩ ?_
            show _ → kW G X m_Model_ofStroke C I 0 0 74 [.ref 88, .int x1, .int x2] [.int p10]
            intro h; have h := Option.some.inj h; subst h
            exact kx_iret hX hE ok_Model_ofStroke (nx := 75) rfl rfl ⟨Nat.le_of_ble_eq_true rfl, Nat.le_of_ble_eq_true rfl⟩
      · refine kx_go 3 (pc' := 35) (lv' := [.ref 88, .int x1, .int x2]) (st' := [.int x2, .int x1, .ref 88]) hX ok_Model_ofStroke rfl ?_
        refine kx_bind (fun p11 hp11 => ?_)
        refine kx_V (r := 88) (as := [.int x1, .int x2]) (by decide) hX ok_Model_ofStroke (nx := 38) rfl l_Model_155 (by decide) rfl (fun _ => s_Model_of (G := G) (d := 0) (Nat.le_refl _) C I x1 x2 p11 hp11) (by omega) rfl (rest := []) rfl (Nat.le_of_ble_eq_true rfl) ⟨Nat.le_of_ble_eq_true rfl, Nat.le_of_ble_eq_true rfl⟩ ?_
        show _ → kW G X m_Model_ofStroke C I 0 0 38 [.ref 88, .int x1, .int x2] [.int p11]
        refine kx_go 1 (pc' := 74) (lv' := [.ref 88, .int x1, .int x2]) (st' := [.int p11]) hX ok_Model_ofStroke rfl ?_
        intro h; have h := Option.some.inj h; subst h
        exact kx_iret hX hE ok_Model_ofStroke (nx := 75) rfl rfl ⟨Nat.le_of_ble_eq_true rfl, Nat.le_of_ble_eq_true rfl⟩
def M_Model_mostOf (x0 : Int32) : Int32 := if x0 = (2 : Int32) then ((35 : Int32)) else (if x0 = (3 : Int32) then ((99 : Int32)) else (if x0 = (6 : Int32) then ((99 : Int32)) else (if x0 = (4 : Int32) then ((9999 : Int32)) else (if x0 = (5 : Int32) then ((9999 : Int32)) else ((-1 : Int32))))))
theorem s_Model_mostOf {G : xG} {d : Nat} (hd : 0 ≤ d) (C : HC) (I : HI) (x0 : Int32)  (r : Int32) : M_Model_mostOf x0 = r → kM G d m_Model_mostOf [.int x0] C I 0 0 (some (.int r)) C I := by
  unfold M_Model_mostOf
  refine kM.of (by decide +kernel) (Nat.le_of_ble_eq_true rfl) (lv := [.int x0]) rfl (fun X hX hE => ?_)
  refine kx_go 3 (pc' := if x0 = (2 : Int32) then 5 else 10) (lv' := [.int x0]) (st' := []) hX ok_Model_mostOf rfl ?_
  refine kx_ite (fun c1 => ?_) (fun c1 => ?_)
  · refine kx_go 2 (pc' := 43) (lv' := [.int x0]) (st' := [.int (35 : Int32)]) hX ok_Model_mostOf rfl ?_
    rintro rfl
    exact kx_iret hX hE ok_Model_mostOf (nx := 44) rfl rfl ⟨Nat.le_of_ble_eq_true rfl, Nat.le_of_ble_eq_true rfl⟩
  · refine kx_go 3 (pc' := if x0 = (3 : Int32) then 21 else 15) (lv' := [.int x0]) (st' := []) hX ok_Model_mostOf rfl ?_
    refine kx_ite (fun c2 => ?_) (fun c2 => ?_)
    · refine kx_go 2 (pc' := 43) (lv' := [.int x0]) (st' := [.int (99 : Int32)]) hX ok_Model_mostOf rfl ?_
      rintro rfl
      exact kx_iret hX hE ok_Model_mostOf (nx := 44) rfl rfl ⟨Nat.le_of_ble_eq_true rfl, Nat.le_of_ble_eq_true rfl⟩
    · refine kx_go 3 (pc' := if x0 = (6 : Int32) then 21 else 26) (lv' := [.int x0]) (st' := []) hX ok_Model_mostOf rfl ?_
      refine kx_ite (fun c3 => ?_) (fun c3 => ?_)
      · refine kx_go 2 (pc' := 43) (lv' := [.int x0]) (st' := [.int (99 : Int32)]) hX ok_Model_mostOf rfl ?_
        rintro rfl
        exact kx_iret hX hE ok_Model_mostOf (nx := 44) rfl rfl ⟨Nat.le_of_ble_eq_true rfl, Nat.le_of_ble_eq_true rfl⟩
      · refine kx_go 3 (pc' := if x0 = (4 : Int32) then 36 else 31) (lv' := [.int x0]) (st' := []) hX ok_Model_mostOf rfl ?_
        refine kx_ite (fun c4 => ?_) (fun c4 => ?_)
        · refine kx_go 2 (pc' := 43) (lv' := [.int x0]) (st' := [.int (9999 : Int32)]) hX ok_Model_mostOf rfl ?_
          rintro rfl
          exact kx_iret hX hE ok_Model_mostOf (nx := 44) rfl rfl ⟨Nat.le_of_ble_eq_true rfl, Nat.le_of_ble_eq_true rfl⟩
        · refine kx_go 3 (pc' := if x0 = (5 : Int32) then 36 else 42) (lv' := [.int x0]) (st' := []) hX ok_Model_mostOf rfl ?_
          refine kx_ite (fun c5 => ?_) (fun c5 => ?_)
          · refine kx_go 2 (pc' := 43) (lv' := [.int x0]) (st' := [.int (9999 : Int32)]) hX ok_Model_mostOf rfl ?_
            rintro rfl
            exact kx_iret hX hE ok_Model_mostOf (nx := 44) rfl rfl ⟨Nat.le_of_ble_eq_true rfl, Nat.le_of_ble_eq_true rfl⟩
          · refine kx_go 1 (pc' := 43) (lv' := [.int x0]) (st' := [.int (-1 : Int32)]) hX ok_Model_mostOf rfl ?_
            rintro rfl
            exact kx_iret hX hE ok_Model_mostOf (nx := 44) rfl rfl ⟨Nat.le_of_ble_eq_true rfl, Nat.le_of_ble_eq_true rfl⟩
def M_Model_change (I : HI) (x1 : Int32) (x2 : Int32) (x3 : Int32) : Option (Int32 × HI) := if (M_Model_isStroke I x1) = (0 : Int32) then (Option.bind (M_Model_finds I (1 : Int32)) fun p2 => some (p2.1, p2.2)) else (if (M_Model_in (x3.toInt64) (Int64.ofNat 0) ((M_Model_mostOf x2).toInt64)) = (0 : Int32) then (Option.bind (M_Model_finds I (1 : Int32)) fun p4 => some (p4.1, p4.2)) else (Option.bind (M_Model_of I x1 x2) fun p5 => Option.bind (M_Model_becomes I x1 x2 x3) fun p6 => some (p5, p6)))
theorem s_Model_change {G : xG} {d : Nat} (hd : 2 ≤ d) (C : HC) (I : HI) (x1 : Int32) (x2 : Int32) (x3 : Int32)  (r : Int32 × HI) : M_Model_change I x1 x2 x3 = some r → kM G d m_Model_change [.ref 88, .int x1, .int x2, .int x3] C I 0 0 (some (.int r.1)) C r.2 := by
  unfold M_Model_change
  refine kM.of (by decide +kernel) (Nat.le_of_ble_eq_true rfl) (lv := [.ref 88, .int x1, .int x2, .int x3, .null]) rfl (fun X hX hE => ?_)
  refine kx_go 2 (pc' := 2) (lv' := [.ref 88, .int x1, .int x2, .int x3, .null]) (st' := [.int x1, .ref 88]) hX ok_Model_change rfl ?_
  refine kx_V (r := 88) (as := [.int x1]) (by decide) hX ok_Model_change (nx := 5) rfl l_Model_165 (by decide) rfl (fun _ => s_Model_isStroke (G := G) (d := 1) (Nat.le_refl _) C I x1 _ rfl) (by omega) rfl (rest := []) rfl (Nat.le_of_ble_eq_true rfl) ⟨Nat.le_of_ble_eq_true rfl, Nat.le_of_ble_eq_true rfl⟩ ?_
  show _ → kW G X m_Model_change C I 0 0 5 [.ref 88, .int x1, .int x2, .int x3, .null] [.int (M_Model_isStroke I x1)]
  refine kx_go 1 (pc' := if (M_Model_isStroke I x1) = (0 : Int32) then 22 else 8) (lv' := [.ref 88, .int x1, .int x2, .int x3, .null]) (st' := []) hX ok_Model_change rfl ?_
  refine kx_ite (fun c1 => ?_) (fun c1 => ?_)
  · refine kx_go 2 (pc' := 24) (lv' := [.ref 88, .int x1, .int x2, .int x3, .null]) (st' := [.int (1 : Int32), .ref 88]) hX ok_Model_change rfl ?_
    refine kx_bind (fun p2 hp2 => ?_)
    refine kx_V (r := 88) (as := [.int (1 : Int32)]) (by decide) hX ok_Model_change (nx := 27) rfl l_Model_129 (by decide) rfl (fun _ => s_Model_finds (G := G) (d := 0) (Nat.le_refl _) C I (1 : Int32) p2 hp2) (by omega) rfl (rest := []) rfl (Nat.le_of_ble_eq_true rfl) ⟨Nat.le_of_ble_eq_true rfl, Nat.le_of_ble_eq_true rfl⟩ ?_
    show _ → kW G X m_Model_change C p2.2 0 0 27 [.ref 88, .int x1, .int x2, .int x3, .null] [.int p2.1]
    intro h; have h := Option.some.inj h; subst h
    exact kx_iret hX hE ok_Model_change (nx := 28) rfl rfl ⟨Nat.le_of_ble_eq_true rfl, Nat.le_of_ble_eq_true rfl⟩
  · refine kx_go 4 (pc' := 12) (lv' := [.ref 88, .int x1, .int x2, .int x3, .null]) (st' := [.int x2, .long (Int64.ofNat 0), .long (x3.toInt64)]) hX ok_Model_change rfl ?_
    refine kx_S (as := [.int x2]) hX ok_Model_change (nx := 15) rfl l_Model_179 (fun _ => s_Model_mostOf (G := G) (d := 0) (Nat.le_refl _) C I x2 _ rfl) (by omega) rfl (rest := [.long (Int64.ofNat 0), .long (x3.toInt64)]) rfl (Nat.le_of_ble_eq_true rfl) ⟨Nat.le_of_ble_eq_true rfl, Nat.le_of_ble_eq_true rfl⟩ ?_
    show _ → kW G X m_Model_change C I 0 0 15 [.ref 88, .int x1, .int x2, .int x3, .null] [.int (M_Model_mostOf x2), .long (Int64.ofNat 0), .long (x3.toInt64)]
    refine kx_go 1 (pc' := 16) (lv' := [.ref 88, .int x1, .int x2, .int x3, .null]) (st' := [.long ((M_Model_mostOf x2).toInt64), .long (Int64.ofNat 0), .long (x3.toInt64)]) hX ok_Model_change rfl ?_
    refine kx_S (as := [.long (x3.toInt64), .long (Int64.ofNat 0), .long ((M_Model_mostOf x2).toInt64)]) hX ok_Model_change (nx := 19) rfl l_Model_66 (fun _ => s_Model_in (G := G) (d := 0) (Nat.le_refl _) C I (x3.toInt64) (Int64.ofNat 0) ((M_Model_mostOf x2).toInt64) _ rfl) (by omega) rfl (rest := []) rfl (Nat.le_of_ble_eq_true rfl) ⟨Nat.le_of_ble_eq_true rfl, Nat.le_of_ble_eq_true rfl⟩ ?_
    show _ → kW G X m_Model_change C I 0 0 19 [.ref 88, .int x1, .int x2, .int x3, .null] [.int (M_Model_in (x3.toInt64) (Int64.ofNat 0) ((M_Model_mostOf x2).toInt64))]
    refine kx_go 1 (pc' := if (M_Model_in (x3.toInt64) (Int64.ofNat 0) ((M_Model_mostOf x2).toInt64)) = (0 : Int32) then 22 else 28) (lv' := [.ref 88, .int x1, .int x2, .int x3, .null]) (st' := []) hX ok_Model_change rfl ?_
    refine kx_ite (fun c3 => ?_) (fun c3 => ?_)
    · refine kx_go 2 (pc' := 24) (lv' := [.ref 88, .int x1, .int x2, .int x3, .null]) (st' := [.int (1 : Int32), .ref 88]) hX ok_Model_change rfl ?_
      refine kx_bind (fun p4 hp4 => ?_)
      refine kx_V (r := 88) (as := [.int (1 : Int32)]) (by decide) hX ok_Model_change (nx := 27) rfl l_Model_129 (by decide) rfl (fun _ => s_Model_finds (G := G) (d := 0) (Nat.le_refl _) C I (1 : Int32) p4 hp4) (by omega) rfl (rest := []) rfl (Nat.le_of_ble_eq_true rfl) ⟨Nat.le_of_ble_eq_true rfl, Nat.le_of_ble_eq_true rfl⟩ ?_
      show _ → kW G X m_Model_change C p4.2 0 0 27 [.ref 88, .int x1, .int x2, .int x3, .null] [.int p4.1]
      intro h; have h := Option.some.inj h; subst h
      exact kx_iret hX hE ok_Model_change (nx := 28) rfl rfl ⟨Nat.le_of_ble_eq_true rfl, Nat.le_of_ble_eq_true rfl⟩
    · refine kx_go 3 (pc' := 31) (lv' := [.ref 88, .int x1, .int x2, .int x3, .null]) (st' := [.int x2, .int x1, .ref 88]) hX ok_Model_change rfl ?_
      refine kx_bind (fun p5 hp5 => ?_)
      refine kx_V (r := 88) (as := [.int x1, .int x2]) (by decide) hX ok_Model_change (nx := 34) rfl l_Model_155 (by decide) rfl (fun _ => s_Model_of (G := G) (d := 0) (Nat.le_refl _) C I x1 x2 p5 hp5) (by omega) rfl (rest := []) rfl (Nat.le_of_ble_eq_true rfl) ⟨Nat.le_of_ble_eq_true rfl, Nat.le_of_ble_eq_true rfl⟩ ?_
      show _ → kW G X m_Model_change C I 0 0 34 [.ref 88, .int x1, .int x2, .int x3, .null] [.int p5]
      refine kx_go 5 (pc' := 40) (lv' := [.ref 88, .int x1, .int x2, .int x3, .int p5]) (st' := [.int x3, .int x2, .int x1, .ref 88]) hX ok_Model_change rfl ?_
      refine kx_bind (fun p6 hp6 => ?_)
      refine kx_V (r := 88) (as := [.int x1, .int x2, .int x3]) (by decide) hX ok_Model_change (nx := 43) rfl l_Model_151 (by decide) rfl (fun _ => s_Model_becomes (G := G) (d := 0) (Nat.le_refl _) C I x1 x2 x3 p6 hp6) (by omega) rfl (rest := []) rfl (Nat.le_of_ble_eq_true rfl) ⟨Nat.le_of_ble_eq_true rfl, Nat.le_of_ble_eq_true rfl⟩ ?_
      show _ → kW G X m_Model_change C p6 0 0 43 [.ref 88, .int x1, .int x2, .int x3, .int p5] []
      refine kx_go 1 (pc' := 45) (lv' := [.ref 88, .int x1, .int x2, .int x3, .int p5]) (st' := [.int p5]) hX ok_Model_change rfl ?_
      intro h; have h := Option.some.inj h; subst h
      exact kx_iret hX hE ok_Model_change (nx := 46) rfl rfl ⟨Nat.le_of_ble_eq_true rfl, Nat.le_of_ble_eq_true rfl⟩
def M_Model_become (I : HI) (x1 : Int32) (x2 : Int32) : Option (Int32 × HI) := if (M_Model_isStroke I x1) = (0 : Int32) then (Option.bind (M_Model_finds I (1 : Int32)) fun p2 => some (p2.1, p2.2)) else (if (M_Model_in (x2.toInt64) (Int64.ofNat 0) (Int64.ofNat 69)) = (0 : Int32) then (Option.bind (M_Model_finds I (1 : Int32)) fun p4 => some (p4.1, p4.2)) else (Option.bind (M_Model_of I x1 (0 : Int32)) fun p5 => Option.bind (M_Model_becomes I x1 (0 : Int32) (x2 / (10 : Int32))) fun p6 => Option.bind (M_Model_becomes p6 x1 (1 : Int32) (x2 - x2 / (10 : Int32) * (10 : Int32))) fun p7 => some (p5, p7)))
theorem s_Model_become {G : xG} {d : Nat} (hd : 2 ≤ d) (C : HC) (I : HI) (x1 : Int32) (x2 : Int32)  (r : Int32 × HI) : M_Model_become I x1 x2 = some r → kM G d m_Model_become [.ref 88, .int x1, .int x2] C I 0 0 (some (.int r.1)) C r.2 := by
  unfold M_Model_become
  refine kM.of (by decide +kernel) (Nat.le_of_ble_eq_true rfl) (lv := [.ref 88, .int x1, .int x2, .null]) rfl (fun X hX hE => ?_)
  refine kx_go 2 (pc' := 2) (lv' := [.ref 88, .int x1, .int x2, .null]) (st' := [.int x1, .ref 88]) hX ok_Model_become rfl ?_
  refine kx_V (r := 88) (as := [.int x1]) (by decide) hX ok_Model_become (nx := 5) rfl l_Model_165 (by decide) rfl (fun _ => s_Model_isStroke (G := G) (d := 1) (Nat.le_refl _) C I x1 _ rfl) (by omega) rfl (rest := []) rfl (Nat.le_of_ble_eq_true rfl) ⟨Nat.le_of_ble_eq_true rfl, Nat.le_of_ble_eq_true rfl⟩ ?_
  show _ → kW G X m_Model_become C I 0 0 5 [.ref 88, .int x1, .int x2, .null] [.int (M_Model_isStroke I x1)]
  refine kx_go 1 (pc' := if (M_Model_isStroke I x1) = (0 : Int32) then 20 else 8) (lv' := [.ref 88, .int x1, .int x2, .null]) (st' := []) hX ok_Model_become rfl ?_
  refine kx_ite (fun c1 => ?_) (fun c1 => ?_)
  · refine kx_go 2 (pc' := 22) (lv' := [.ref 88, .int x1, .int x2, .null]) (st' := [.int (1 : Int32), .ref 88]) hX ok_Model_become rfl ?_
    refine kx_bind (fun p2 hp2 => ?_)
    refine kx_V (r := 88) (as := [.int (1 : Int32)]) (by decide) hX ok_Model_become (nx := 25) rfl l_Model_129 (by decide) rfl (fun _ => s_Model_finds (G := G) (d := 0) (Nat.le_refl _) C I (1 : Int32) p2 hp2) (by omega) rfl (rest := []) rfl (Nat.le_of_ble_eq_true rfl) ⟨Nat.le_of_ble_eq_true rfl, Nat.le_of_ble_eq_true rfl⟩ ?_
    show _ → kW G X m_Model_become C p2.2 0 0 25 [.ref 88, .int x1, .int x2, .null] [.int p2.1]
    intro h; have h := Option.some.inj h; subst h
    exact kx_iret hX hE ok_Model_become (nx := 26) rfl rfl ⟨Nat.le_of_ble_eq_true rfl, Nat.le_of_ble_eq_true rfl⟩
  · refine kx_go 4 (pc' := 14) (lv' := [.ref 88, .int x1, .int x2, .null]) (st' := [.long (Int64.ofNat 69), .long (Int64.ofNat 0), .long (x2.toInt64)]) hX ok_Model_become rfl ?_
    refine kx_S (as := [.long (x2.toInt64), .long (Int64.ofNat 0), .long (Int64.ofNat 69)]) hX ok_Model_become (nx := 17) rfl l_Model_66 (fun _ => s_Model_in (G := G) (d := 0) (Nat.le_refl _) C I (x2.toInt64) (Int64.ofNat 0) (Int64.ofNat 69) _ rfl) (by omega) rfl (rest := []) rfl (Nat.le_of_ble_eq_true rfl) ⟨Nat.le_of_ble_eq_true rfl, Nat.le_of_ble_eq_true rfl⟩ ?_
    show _ → kW G X m_Model_become C I 0 0 17 [.ref 88, .int x1, .int x2, .null] [.int (M_Model_in (x2.toInt64) (Int64.ofNat 0) (Int64.ofNat 69))]
    refine kx_go 1 (pc' := if (M_Model_in (x2.toInt64) (Int64.ofNat 0) (Int64.ofNat 69)) = (0 : Int32) then 20 else 26) (lv' := [.ref 88, .int x1, .int x2, .null]) (st' := []) hX ok_Model_become rfl ?_
    refine kx_ite (fun c3 => ?_) (fun c3 => ?_)
    · refine kx_go 2 (pc' := 22) (lv' := [.ref 88, .int x1, .int x2, .null]) (st' := [.int (1 : Int32), .ref 88]) hX ok_Model_become rfl ?_
      refine kx_bind (fun p4 hp4 => ?_)
      refine kx_V (r := 88) (as := [.int (1 : Int32)]) (by decide) hX ok_Model_become (nx := 25) rfl l_Model_129 (by decide) rfl (fun _ => s_Model_finds (G := G) (d := 0) (Nat.le_refl _) C I (1 : Int32) p4 hp4) (by omega) rfl (rest := []) rfl (Nat.le_of_ble_eq_true rfl) ⟨Nat.le_of_ble_eq_true rfl, Nat.le_of_ble_eq_true rfl⟩ ?_
      show _ → kW G X m_Model_become C p4.2 0 0 25 [.ref 88, .int x1, .int x2, .null] [.int p4.1]
      intro h; have h := Option.some.inj h; subst h
      exact kx_iret hX hE ok_Model_become (nx := 26) rfl rfl ⟨Nat.le_of_ble_eq_true rfl, Nat.le_of_ble_eq_true rfl⟩
    · refine kx_go 3 (pc' := 29) (lv' := [.ref 88, .int x1, .int x2, .null]) (st' := [.int (0 : Int32), .int x1, .ref 88]) hX ok_Model_become rfl ?_
      refine kx_bind (fun p5 hp5 => ?_)
      refine kx_V (r := 88) (as := [.int x1, .int (0 : Int32)]) (by decide) hX ok_Model_become (nx := 32) rfl l_Model_155 (by decide) rfl (fun _ => s_Model_of (G := G) (d := 0) (Nat.le_refl _) C I x1 (0 : Int32) p5 hp5) (by omega) rfl (rest := []) rfl (Nat.le_of_ble_eq_true rfl) ⟨Nat.le_of_ble_eq_true rfl, Nat.le_of_ble_eq_true rfl⟩ ?_
      show _ → kW G X m_Model_become C I 0 0 32 [.ref 88, .int x1, .int x2, .null] [.int p5]
      refine kx_go 6 (pc' := 39) (lv' := [.ref 88, .int x1, .int x2, .int p5]) (st' := [.int (10 : Int32), .int x2, .int (0 : Int32), .int x1, .ref 88]) hX ok_Model_become rfl ?_
      refine kx_idivc hX ok_Model_become (nx := 40) rfl (by decide) ?_
      refine kx_bind (fun p6 hp6 => ?_)
      refine kx_V (r := 88) (as := [.int x1, .int (0 : Int32), .int (x2 / (10 : Int32))]) (by decide) hX ok_Model_become (nx := 43) rfl l_Model_151 (by decide) rfl (fun _ => s_Model_becomes (G := G) (d := 0) (Nat.le_refl _) C I x1 (0 : Int32) (x2 / (10 : Int32)) p6 hp6) (by omega) rfl (rest := []) rfl (Nat.le_of_ble_eq_true rfl) ⟨Nat.le_of_ble_eq_true rfl, Nat.le_of_ble_eq_true rfl⟩ ?_
      show _ → kW G X m_Model_become C p6 0 0 43 [.ref 88, .int x1, .int x2, .int p5] []
      refine kx_go 5 (pc' := 49) (lv' := [.ref 88, .int x1, .int x2, .int p5]) (st' := [.int (10 : Int32), .int x2, .int (1 : Int32), .int x1, .ref 88]) hX ok_Model_become rfl ?_
      refine kx_iremc hX ok_Model_become (nx := 50) rfl (by decide) ?_
      refine kx_bind (fun p7 hp7 => ?_)
      refine kx_V (r := 88) (as := [.int x1, .int (1 : Int32), .int (x2 - x2 / (10 : Int32) * (10 : Int32))]) (by decide) hX ok_Model_become (nx := 53) rfl l_Model_151 (by decide) rfl (fun _ => s_Model_becomes (G := G) (d := 0) (Nat.le_refl _) C p6 x1 (1 : Int32) (x2 - x2 / (10 : Int32) * (10 : Int32)) p7 hp7) (by omega) rfl (rest := []) rfl (Nat.le_of_ble_eq_true rfl) ⟨Nat.le_of_ble_eq_true rfl, Nat.le_of_ble_eq_true rfl⟩ ?_
      show _ → kW G X m_Model_become C p7 0 0 53 [.ref 88, .int x1, .int x2, .int p5] []
      refine kx_go 1 (pc' := 54) (lv' := [.ref 88, .int x1, .int x2, .int p5]) (st' := [.int p5]) hX ok_Model_become rfl ?_
      intro h; have h := Option.some.inj h; subst h
      exact kx_iret hX hE ok_Model_become (nx := 55) rfl rfl ⟨Nat.le_of_ble_eq_true rfl, Nat.le_of_ble_eq_true rfl⟩
def M_Model_as (I : HI) (x1 : Int32) (x2 : Int32) : Option (Int32 × HI) := if (M_Model_isStroke I x1) = (0 : Int32) then (Option.bind (M_Model_finds I (1 : Int32)) fun p2 => some (p2.1, p2.2)) else (if (M_Model_in (x2.toInt64) (Int64.ofNat 0) (Int64.ofNat 6)) = (0 : Int32) then (Option.bind (M_Model_finds I (1 : Int32)) fun p4 => some (p4.1, p4.2)) else (Option.bind (M_Model_of I x1 (0 : Int32)) fun p5 => if x2 = (0 : Int32) then (Option.bind (M_Model_of I x1 (1 : Int32)) fun p7 => some (p7, I)) else (if x2 = p5 then (Option.bind (M_Model_of I x1 (1 : Int32)) fun p9 => some (p9, I)) else (if x2 = (M_Model_above p5) then (Option.bind (M_Model_of I x1 (1 : Int32)) fun p11 => some (p11, I)) else (Option.bind (M_Model_finds I (5 : Int32)) fun p12 => some (p12.1, p12.2))))))
theorem s_Model_as {G : xG} {d : Nat} (hd : 2 ≤ d) (C : HC) (I : HI) (x1 : Int32) (x2 : Int32)  (r : Int32 × HI) : M_Model_as I x1 x2 = some r → kM G d m_Model_as [.ref 88, .int x1, .int x2] C I 0 0 (some (.int r.1)) C r.2 := by
  unfold M_Model_as
  refine kM.of (by decide +kernel) (Nat.le_of_ble_eq_true rfl) (lv := [.ref 88, .int x1, .int x2, .null]) rfl (fun X hX hE => ?_)
  refine kx_go 2 (pc' := 2) (lv' := [.ref 88, .int x1, .int x2, .null]) (st' := [.int x1, .ref 88]) hX ok_Model_as rfl ?_
  refine kx_V (r := 88) (as := [.int x1]) (by decide) hX ok_Model_as (nx := 5) rfl l_Model_165 (by decide) rfl (fun _ => s_Model_isStroke (G := G) (d := 1) (Nat.le_refl _) C I x1 _ rfl) (by omega) rfl (rest := []) rfl (Nat.le_of_ble_eq_true rfl) ⟨Nat.le_of_ble_eq_true rfl, Nat.le_of_ble_eq_true rfl⟩ ?_
  show _ → kW G X m_Model_as C I 0 0 5 [.ref 88, .int x1, .int x2, .null] [.int (M_Model_isStroke I x1)]
  refine kx_go 1 (pc' := if (M_Model_isStroke I x1) = (0 : Int32) then 20 else 8) (lv' := [.ref 88, .int x1, .int x2, .null]) (st' := []) hX ok_Model_as rfl ?_
  refine kx_ite (fun c1 => ?_) (fun c1 => ?_)
  · refine kx_go 2 (pc' := 22) (lv' := [.ref 88, .int x1, .int x2, .null]) (st' := [.int (1 : Int32), .ref 88]) hX ok_Model_as rfl ?_
    refine kx_bind (fun p2 hp2 => ?_)
    refine kx_V (r := 88) (as := [.int (1 : Int32)]) (by decide) hX ok_Model_as (nx := 25) rfl l_Model_129 (by decide) rfl (fun _ => s_Model_finds (G := G) (d := 0) (Nat.le_refl _) C I (1 : Int32) p2 hp2) (by omega) rfl (rest := []) rfl (Nat.le_of_ble_eq_true rfl) ⟨Nat.le_of_ble_eq_true rfl, Nat.le_of_ble_eq_true rfl⟩ ?_
    show _ → kW G X m_Model_as C p2.2 0 0 25 [.ref 88, .int x1, .int x2, .null] [.int p2.1]
    intro h; have h := Option.some.inj h; subst h
    exact kx_iret hX hE ok_Model_as (nx := 26) rfl rfl ⟨Nat.le_of_ble_eq_true rfl, Nat.le_of_ble_eq_true rfl⟩
  · refine kx_go 4 (pc' := 14) (lv' := [.ref 88, .int x1, .int x2, .null]) (st' := [.long (Int64.ofNat 6), .long (Int64.ofNat 0), .long (x2.toInt64)]) hX ok_Model_as rfl ?_
    refine kx_S (as := [.long (x2.toInt64), .long (Int64.ofNat 0), .long (Int64.ofNat 6)]) hX ok_Model_as (nx := 17) rfl l_Model_66 (fun _ => s_Model_in (G := G) (d := 0) (Nat.le_refl _) C I (x2.toInt64) (Int64.ofNat 0) (Int64.ofNat 6) _ rfl) (by omega) rfl (rest := []) rfl (Nat.le_of_ble_eq_true rfl) ⟨Nat.le_of_ble_eq_true rfl, Nat.le_of_ble_eq_true rfl⟩ ?_
    show _ → kW G X m_Model_as C I 0 0 17 [.ref 88, .int x1, .int x2, .null] [.int (M_Model_in (x2.toInt64) (Int64.ofNat 0) (Int64.ofNat 6))]
    refine kx_go 1 (pc' := if (M_Model_in (x2.toInt64) (Int64.ofNat 0) (Int64.ofNat 6)) = (0 : Int32) then 20 else 26) (lv' := [.ref 88, .int x1, .int x2, .null]) (st' := []) hX ok_Model_as rfl ?_
    refine kx_ite (fun c3 => ?_) (fun c3 => ?_)
    · refine kx_go 2 (pc' := 22) (lv' := [.ref 88, .int x1, .int x2, .null]) (st' := [.int (1 : Int32), .ref 88]) hX ok_Model_as rfl ?_
      refine kx_bind (fun p4 hp4 => ?_)
      refine kx_V (r := 88) (as := [.int (1 : Int32)]) (by decide) hX ok_Model_as (nx := 25) rfl l_Model_129 (by decide) rfl (fun _ => s_Model_finds (G := G) (d := 0) (Nat.le_refl _) C I (1 : Int32) p4 hp4) (by omega) rfl (rest := []) rfl (Nat.le_of_ble_eq_true rfl) ⟨Nat.le_of_ble_eq_true rfl, Nat.le_of_ble_eq_true rfl⟩ ?_
      show _ → kW G X m_Model_as C p4.2 0 0 25 [.ref 88, .int x1, .int x2, .null] [.int p4.1]
      intro h; have h := Option.some.inj h; subst h
      exact kx_iret hX hE ok_Model_as (nx := 26) rfl rfl ⟨Nat.le_of_ble_eq_true rfl, Nat.le_of_ble_eq_true rfl⟩
    · refine kx_go 3 (pc' := 29) (lv' := [.ref 88, .int x1, .int x2, .null]) (st' := [.int (0 : Int32), .int x1, .ref 88]) hX ok_Model_as rfl ?_
      refine kx_bind (fun p5 hp5 => ?_)
      refine kx_V (r := 88) (as := [.int x1, .int (0 : Int32)]) (by decide) hX ok_Model_as (nx := 32) rfl l_Model_155 (by decide) rfl (fun _ => s_Model_of (G := G) (d := 0) (Nat.le_refl _) C I x1 (0 : Int32) p5 hp5) (by omega) rfl (rest := []) rfl (Nat.le_of_ble_eq_true rfl) ⟨Nat.le_of_ble_eq_true rfl, Nat.le_of_ble_eq_true rfl⟩ ?_
      show _ → kW G X m_Model_as C I 0 0 32 [.ref 88, .int x1, .int x2, .null] [.int p5]
      refine kx_go 3 (pc' := if x2 = (0 : Int32) then 50 else 37) (lv' := [.ref 88, .int x1, .int x2, .int p5]) (st' := []) hX ok_Model_as rfl ?_
      refine kx_ite (fun c6 => ?_) (fun c6 => ?_)
      · refine kx_go 3 (pc' := 53) (lv' := [.ref 88, .int x1, .int x2, .int p5]) (st' := [.int (1 : Int32), .int x1, .ref 88]) hX ok_Model_as rfl ?_
        refine kx_bind (fun p7 hp7 => ?_)
        refine kx_V (r := 88) (as := [.int x1, .int (1 : Int32)]) (by decide) hX ok_Model_as (nx := 56) rfl l_Model_155 (by decide) rfl (fun _ => s_Model_of (G := G) (d := 0) (Nat.le_refl _) C I x1 (1 : Int32) p7 hp7) (by omega) rfl (rest := []) rfl (Nat.le_of_ble_eq_true rfl) ⟨Nat.le_of_ble_eq_true rfl, Nat.le_of_ble_eq_true rfl⟩ ?_
        show _ → kW G X m_Model_as C I 0 0 56 [.ref 88, .int x1, .int x2, .int p5] [.int p7]
        refine kx_go 1 (pc' := 64) (lv' := [.ref 88, .int x1, .int x2, .int p5]) (st' := [.int p7]) hX ok_Model_as rfl ?_
        intro h; have h := Option.some.inj h; subst h
        exact kx_iret hX hE ok_Model_as (nx := 65) rfl rfl ⟨Nat.le_of_ble_eq_true rfl, Nat.le_of_ble_eq_true rfl⟩
      · refine kx_go 3 (pc' := if x2 = p5 then 50 else 42) (lv' := [.ref 88, .int x1, .int x2, .int p5]) (st' := []) hX ok_Model_as rfl ?_
        refine kx_ite (fun c8 => ?_) (fun c8 => ?_)
        · refine kx_go 3 (pc' := 53) (lv' := [.ref 88, .int x1, .int x2, .int p5]) (st' := [.int (1 : Int32), .int x1, .ref 88]) hX ok_Model_as rfl ?_
          refine kx_bind (fun p9 hp9 => ?_)
          refine kx_V (r := 88) (as := [.int x1, .int (1 : Int32)]) (by decide) hX ok_Model_as (nx := 56) rfl l_Model_155 (by decide) rfl (fun _ => s_Model_of (G := G) (d := 0) (Nat.le_refl _) C I x1 (1 : Int32) p9 hp9) (by omega) rfl (rest := []) rfl (Nat.le_of_ble_eq_true rfl) ⟨Nat.le_of_ble_eq_true rfl, Nat.le_of_ble_eq_true rfl⟩ ?_
          show _ → kW G X m_Model_as C I 0 0 56 [.ref 88, .int x1, .int x2, .int p5] [.int p9]
          refine kx_go 1 (pc' := 64) (lv' := [.ref 88, .int x1, .int x2, .int p5]) (st' := [.int p9]) hX ok_Model_as rfl ?_
          intro h; have h := Option.some.inj h; subst h
          exact kx_iret hX hE ok_Model_as (nx := 65) rfl rfl ⟨Nat.le_of_ble_eq_true rfl, Nat.le_of_ble_eq_true rfl⟩
        · refine kx_go 2 (pc' := 44) (lv' := [.ref 88, .int x1, .int x2, .int p5]) (st' := [.int p5, .int x2]) hX ok_Model_as rfl ?_
          refine kx_S (as := [.int p5]) hX ok_Model_as (nx := 47) rfl l_Model_184 (fun _ => s_Model_above (G := G) (d := 0) (Nat.le_refl _) C I p5 _ rfl) (by omega) rfl (rest := [.int x2]) rfl (Nat.le_of_ble_eq_true rfl) ⟨Nat.le_of_ble_eq_true rfl, Nat.le_of_ble_eq_true rfl⟩ ?_
          show _ → kW G X m_Model_as C I 0 0 47 [.ref 88, .int x1, .int x2, .int p5] [.int (M_Model_above p5), .int x2]
          refine kx_go 1 (pc' := if x2 = (M_Model_above p5) then 50 else 59) (lv' := [.ref 88, .int x1, .int x2, .int p5]) (st' := []) hX ok_Model_as rfl ?_
          refine kx_ite (fun c10 => ?_) (fun c10 => ?_)
          · refine kx_go 3 (pc' := 53) (lv' := [.ref 88, .int x1, .int x2, .int p5]) (st' := [.int (1 : Int32), .int x1, .ref 88]) hX ok_Model_as rfl ?_
            refine kx_bind (fun p11 hp11 => ?_)
            refine kx_V (r := 88) (as := [.int x1, .int (1 : Int32)]) (by decide) hX ok_Model_as (nx := 56) rfl l_Model_155 (by decide) rfl (fun _ => s_Model_of (G := G) (d := 0) (Nat.le_refl _) C I x1 (1 : Int32) p11 hp11) (by omega) rfl (rest := []) rfl (Nat.le_of_ble_eq_true rfl) ⟨Nat.le_of_ble_eq_true rfl, Nat.le_of_ble_eq_true rfl⟩ ?_
            show _ → kW G X m_Model_as C I 0 0 56 [.ref 88, .int x1, .int x2, .int p5] [.int p11]
            refine kx_go 1 (pc' := 64) (lv' := [.ref 88, .int x1, .int x2, .int p5]) (st' := [.int p11]) hX ok_Model_as rfl ?_
            intro h; have h := Option.some.inj h; subst h
            exact kx_iret hX hE ok_Model_as (nx := 65) rfl rfl ⟨Nat.le_of_ble_eq_true rfl, Nat.le_of_ble_eq_true rfl⟩
          · refine kx_go 2 (pc' := 61) (lv' := [.ref 88, .int x1, .int x2, .int p5]) (st' := [.int (5 : Int32), .ref 88]) hX ok_Model_as rfl ?_
            refine kx_bind (fun p12 hp12 => ?_)
            refine kx_V (r := 88) (as := [.int (5 : Int32)]) (by decide) hX ok_Model_as (nx := 64) rfl l_Model_129 (by decide) rfl (fun _ => s_Model_finds (G := G) (d := 0) (Nat.le_refl _) C I (5 : Int32) p12 hp12) (by omega) rfl (rest := []) rfl (Nat.le_of_ble_eq_true rfl) ⟨Nat.le_of_ble_eq_true rfl, Nat.le_of_ble_eq_true rfl⟩ ?_
            show _ → kW G X m_Model_as C p12.2 0 0 64 [.ref 88, .int x1, .int x2, .int p5] [.int p12.1]
            intro h; have h := Option.some.inj h; subst h
            exact kx_iret hX hE ok_Model_as (nx := 65) rfl rfl ⟨Nat.le_of_ble_eq_true rfl, Nat.le_of_ble_eq_true rfl⟩
def M_Model_isTold (I : HI) (x1 : Int32) (x2 : Int32) (x3 : Int32) : Int32 := if (M_Model_isStroke I x1) = (0 : Int32) then ((0 : Int32)) else (if (M_Model_isStroke I x2) = (0 : Int32) then ((0 : Int32)) else (if x1 = x2 then ((0 : Int32)) else (if (M_Model_in (x3.toInt64) (Int64.ofNat 1) (Int64.ofNat 99)) = (0 : Int32) then ((0 : Int32)) else ((1 : Int32)))))
theorem s_Model_isTold {G : xG} {d : Nat} (hd : 2 ≤ d) (C : HC) (I : HI) (x1 : Int32) (x2 : Int32) (x3 : Int32)  (r : Int32) : M_Model_isTold I x1 x2 x3 = r → kM G d m_Model_isTold [.ref 88, .int x1, .int x2, .int x3] C I 0 0 (some (.int r)) C I := by
  unfold M_Model_isTold
  refine kM.of (by decide +kernel) (Nat.le_of_ble_eq_true rfl) (lv := [.ref 88, .int x1, .int x2, .int x3]) rfl (fun X hX hE => ?_)
  refine kx_go 2 (pc' := 2) (lv' := [.ref 88, .int x1, .int x2, .int x3]) (st' := [.int x1, .ref 88]) hX ok_Model_isTold rfl ?_
  refine kx_V (r := 88) (as := [.int x1]) (by decide) hX ok_Model_isTold (nx := 5) rfl l_Model_165 (by decide) rfl (fun _ => s_Model_isStroke (G := G) (d := 1) (Nat.le_refl _) C I x1 _ rfl) (by omega) rfl (rest := []) rfl (Nat.le_of_ble_eq_true rfl) ⟨Nat.le_of_ble_eq_true rfl, Nat.le_of_ble_eq_true rfl⟩ ?_
  show _ → kW G X m_Model_isTold C I 0 0 5 [.ref 88, .int x1, .int x2, .int x3] [.int (M_Model_isStroke I x1)]
  refine kx_go 1 (pc' := if (M_Model_isStroke I x1) = (0 : Int32) then 37 else 8) (lv' := [.ref 88, .int x1, .int x2, .int x3]) (st' := []) hX ok_Model_isTold rfl ?_
  refine kx_ite (fun c1 => ?_) (fun c1 => ?_)
  · refine kx_go 1 (pc' := 38) (lv' := [.ref 88, .int x1, .int x2, .int x3]) (st' := [.int (0 : Int32)]) hX ok_Model_isTold rfl ?_
    rintro rfl
    exact kx_zret hX hE ok_Model_isTold (nx := 39) rfl rfl (Or.inl rfl) ⟨Nat.le_of_ble_eq_true rfl, Nat.le_of_ble_eq_true rfl⟩
  · refine kx_go 2 (pc' := 10) (lv' := [.ref 88, .int x1, .int x2, .int x3]) (st' := [.int x2, .ref 88]) hX ok_Model_isTold rfl ?_
    refine kx_V (r := 88) (as := [.int x2]) (by decide) hX ok_Model_isTold (nx := 13) rfl l_Model_165 (by decide) rfl (fun _ => s_Model_isStroke (G := G) (d := 1) (Nat.le_refl _) C I x2 _ rfl) (by omega) rfl (rest := []) rfl (Nat.le_of_ble_eq_true rfl) ⟨Nat.le_of_ble_eq_true rfl, Nat.le_of_ble_eq_true rfl⟩ ?_
    show _ → kW G X m_Model_isTold C I 0 0 13 [.ref 88, .int x1, .int x2, .int x3] [.int (M_Model_isStroke I x2)]
    refine kx_go 1 (pc' := if (M_Model_isStroke I x2) = (0 : Int32) then 37 else 16) (lv' := [.ref 88, .int x1, .int x2, .int x3]) (st' := []) hX ok_Model_isTold rfl ?_
    refine kx_ite (fun c2 => ?_) (fun c2 => ?_)
    · refine kx_go 1 (pc' := 38) (lv' := [.ref 88, .int x1, .int x2, .int x3]) (st' := [.int (0 : Int32)]) hX ok_Model_isTold rfl ?_
      rintro rfl
      exact kx_zret hX hE ok_Model_isTold (nx := 39) rfl rfl (Or.inl rfl) ⟨Nat.le_of_ble_eq_true rfl, Nat.le_of_ble_eq_true rfl⟩
    · refine kx_go 3 (pc' := if x1 = x2 then 37 else 21) (lv' := [.ref 88, .int x1, .int x2, .int x3]) (st' := []) hX ok_Model_isTold rfl ?_
      refine kx_ite (fun c3 => ?_) (fun c3 => ?_)
      · refine kx_go 1 (pc' := 38) (lv' := [.ref 88, .int x1, .int x2, .int x3]) (st' := [.int (0 : Int32)]) hX ok_Model_isTold rfl ?_
        rintro rfl
        exact kx_zret hX hE ok_Model_isTold (nx := 39) rfl rfl (Or.inl rfl) ⟨Nat.le_of_ble_eq_true rfl, Nat.le_of_ble_eq_true rfl⟩
      · refine kx_go 4 (pc' := 27) (lv' := [.ref 88, .int x1, .int x2, .int x3]) (st' := [.long (Int64.ofNat 99), .long (Int64.ofNat 1), .long (x3.toInt64)]) hX ok_Model_isTold rfl ?_
        refine kx_S (as := [.long (x3.toInt64), .long (Int64.ofNat 1), .long (Int64.ofNat 99)]) hX ok_Model_isTold (nx := 30) rfl l_Model_66 (fun _ => s_Model_in (G := G) (d := 0) (Nat.le_refl _) C I (x3.toInt64) (Int64.ofNat 1) (Int64.ofNat 99) _ rfl) (by omega) rfl (rest := []) rfl (Nat.le_of_ble_eq_true rfl) ⟨Nat.le_of_ble_eq_true rfl, Nat.le_of_ble_eq_true rfl⟩ ?_
        show _ → kW G X m_Model_isTold C I 0 0 30 [.ref 88, .int x1, .int x2, .int x3] [.int (M_Model_in (x3.toInt64) (Int64.ofNat 1) (Int64.ofNat 99))]
        refine kx_go 1 (pc' := if (M_Model_in (x3.toInt64) (Int64.ofNat 1) (Int64.ofNat 99)) = (0 : Int32) then 37 else 33) (lv' := [.ref 88, .int x1, .int x2, .int x3]) (st' := []) hX ok_Model_isTold rfl ?_
        refine kx_ite (fun c4 => ?_) (fun c4 => ?_)
        · refine kx_go 1 (pc' := 38) (lv' := [.ref 88, .int x1, .int x2, .int x3]) (st' := [.int (0 : Int32)]) hX ok_Model_isTold rfl ?_
          rintro rfl
          exact kx_zret hX hE ok_Model_isTold (nx := 39) rfl rfl (Or.inl rfl) ⟨Nat.le_of_ble_eq_true rfl, Nat.le_of_ble_eq_true rfl⟩
        · refine kx_go 2 (pc' := 38) (lv' := [.ref 88, .int x1, .int x2, .int x3]) (st' := [.int (1 : Int32)]) hX ok_Model_isTold rfl ?_
          rintro rfl
          exact kx_zret hX hE ok_Model_isTold (nx := 39) rfl rfl (Or.inr rfl) ⟨Nat.le_of_ble_eq_true rfl, Nat.le_of_ble_eq_true rfl⟩
def M_Model_lookComes (I : HI) (x1 : Int32) (x2 : Int32) (x3 : Int32) : Option (Int32 × HI) := grd (bnd ((61 : Int32) + ((3 : Int32) * (I 89 1))) 270) (lt (xu I 89 ((61 : Int32) + ((3 : Int32) * (I 89 1))).toNatClampNeg x1) fun J2 => grd (bnd (((61 : Int32) + ((3 : Int32) * (I 89 1))) + (1 : Int32)) 270) (lt (xu J2 89 (((61 : Int32) + ((3 : Int32) * (I 89 1))) + (1 : Int32)).toNatClampNeg x2) fun J4 => grd (bnd (((61 : Int32) + ((3 : Int32) * (I 89 1))) + (2 : Int32)) 270) (lt (xu J4 89 (((61 : Int32) + ((3 : Int32) * (I 89 1))) + (2 : Int32)).toNatClampNeg x3) fun J6 => lt (xu J6 89 1 ((J6 89 1) + (1 : Int32))) fun J7 => some ((I 89 1), J7))))
theorem s_Model_lookComes {G : xG} {d : Nat} (hd : 0 ≤ d) (C : HC) (I : HI) (x1 : Int32) (x2 : Int32) (x3 : Int32)  (r : Int32 × HI) : M_Model_lookComes I x1 x2 x3 = some r → kM G d m_Model_lookComes [.ref 88, .int x1, .int x2, .int x3] C I 0 0 (some (.int r.1)) C r.2 := by
  unfold M_Model_lookComes
  refine kM.of (by decide +kernel) (Nat.le_of_ble_eq_true rfl) (lv := [.ref 88, .int x1, .int x2, .int x3, .null]) rfl (fun X hX hE => ?_)
  refine kx_go 1 (pc' := 1) (lv' := [.ref 88, .int x1, .int x2, .int x3, .null]) (st' := [.ref 88]) hX ok_Model_lookComes rfl ?_
  refine kx_getp hX ok_Model_lookComes rfl (q := 89) (nx := 4) rfl ?_
  refine kx_go 1 (pc' := 5) (lv' := [.ref 88, .int x1, .int x2, .int x3, .null]) (st' := [.int (1 : Int32), .ref 89]) hX ok_Model_lookComes rfl ?_
  refine kx_ialdc hX ok_Model_lookComes (w := 270) (nx := 6) rfl rfl (k := 1) rfl ?_
  refine kx_go 2 (pc' := 9) (lv' := [.ref 88, .int x1, .int x2, .int x3, .int (I 89 1)]) (st' := [.ref 88]) hX ok_Model_lookComes rfl ?_
  refine kx_getp hX ok_Model_lookComes rfl (q := 89) (nx := 12) rfl ?_
  refine kx_go 6 (pc' := 20) (lv' := [.ref 88, .int x1, .int x2, .int x3, .int (I 89 1)]) (st' := [.int x1, .int ((61 : Int32) + ((3 : Int32) * (I 89 1))), .ref 89]) hX ok_Model_lookComes rfl ?_
  refine kx_iast hX ok_Model_lookComes (w := 270) (nx := 21) rfl (fun b1 => ?_)
  refine kx_lt (Q := fun J2 => kW G X m_Model_lookComes C J2 0 0 21 [.ref 88, .int x1, .int x2, .int x3, .int (I 89 1)] []) (fun J2 eJ2 => ?_)
  refine kx_go 1 (pc' := 22) (lv' := [.ref 88, .int x1, .int x2, .int x3, .int (I 89 1)]) (st' := [.ref 88]) hX ok_Model_lookComes rfl ?_
  refine kx_getp hX ok_Model_lookComes rfl (q := 89) (nx := 25) rfl ?_
  refine kx_go 8 (pc' := 35) (lv' := [.ref 88, .int x1, .int x2, .int x3, .int (I 89 1)]) (st' := [.int x2, .int (((61 : Int32) + ((3 : Int32) * (I 89 1))) + (1 : Int32)), .ref 89]) hX ok_Model_lookComes rfl ?_
  refine kx_iast hX ok_Model_lookComes (w := 270) (nx := 36) rfl (fun b3 => ?_)
  refine kx_lt (Q := fun J4 => kW G X m_Model_lookComes C J4 0 0 36 [.ref 88, .int x1, .int x2, .int x3, .int (I 89 1)] []) (fun J4 eJ4 => ?_)
  refine kx_go 1 (pc' := 37) (lv' := [.ref 88, .int x1, .int x2, .int x3, .int (I 89 1)]) (st' := [.ref 88]) hX ok_Model_lookComes rfl ?_
  refine kx_getp hX ok_Model_lookComes rfl (q := 89) (nx := 40) rfl ?_
  refine kx_go 8 (pc' := 50) (lv' := [.ref 88, .int x1, .int x2, .int x3, .int (I 89 1)]) (st' := [.int x3, .int (((61 : Int32) + ((3 : Int32) * (I 89 1))) + (2 : Int32)), .ref 89]) hX ok_Model_lookComes rfl ?_
  refine kx_iast hX ok_Model_lookComes (w := 270) (nx := 51) rfl (fun b5 => ?_)
  refine kx_lt (Q := fun J6 => kW G X m_Model_lookComes C J6 0 0 51 [.ref 88, .int x1, .int x2, .int x3, .int (I 89 1)] []) (fun J6 eJ6 => ?_)
  refine kx_go 1 (pc' := 52) (lv' := [.ref 88, .int x1, .int x2, .int x3, .int (I 89 1)]) (st' := [.ref 88]) hX ok_Model_lookComes rfl ?_
  refine kx_getp hX ok_Model_lookComes rfl (q := 89) (nx := 55) rfl ?_
  refine kx_go 2 (pc' := 57) (lv' := [.ref 88, .int x1, .int x2, .int x3, .int (I 89 1)]) (st' := [.int (1 : Int32), .ref 89, .int (1 : Int32), .ref 89]) hX ok_Model_lookComes rfl ?_
  refine kx_ialdc hX ok_Model_lookComes (w := 270) (nx := 58) rfl rfl (k := 1) rfl ?_
  refine kx_go 2 (pc' := 60) (lv' := [.ref 88, .int x1, .int x2, .int x3, .int (I 89 1)]) (st' := [.int ((J6 89 1) + (1 : Int32)), .int (1 : Int32), .ref 89]) hX ok_Model_lookComes rfl ?_
  refine kx_iastc hX ok_Model_lookComes (w := 270) (nx := 61) rfl rfl (k := 1) rfl ?_
  refine kx_lt (Q := fun J7 => kW G X m_Model_lookComes C J7 0 0 61 [.ref 88, .int x1, .int x2, .int x3, .int (I 89 1)] []) (fun J7 eJ7 => ?_)
  refine kx_go 1 (pc' := 63) (lv' := [.ref 88, .int x1, .int x2, .int x3, .int (I 89 1)]) (st' := [.int (I 89 1)]) hX ok_Model_lookComes rfl ?_
  intro h; have h := Option.some.inj h; subst h
  exact kx_iret hX hE ok_Model_lookComes (nx := 64) rfl rfl ⟨Nat.le_of_ble_eq_true rfl, Nat.le_of_ble_eq_true rfl⟩
def M_Model_over (I : HI) (x1 : Int32) (x2 : Int32) (x3 : Int32) : Option (Int32 × HI) := if (M_Model_isTold I x1 x2 x3) = (0 : Int32) then (Option.bind (M_Model_finds I (1 : Int32)) fun p2 => some (p2.1, p2.2)) else (if (I 89 1) = (12 : Int32) then (Option.bind (M_Model_finds I (4 : Int32)) fun p4 => some (p4.1, p4.2)) else (Option.bind (M_Model_lookComes I x1 x2 x3) fun p5 => some (p5.1, p5.2)))
theorem s_Model_over {G : xG} {d : Nat} (hd : 3 ≤ d) (C : HC) (I : HI) (x1 : Int32) (x2 : Int32) (x3 : Int32)  (r : Int32 × HI) : M_Model_over I x1 x2 x3 = some r → kM G d m_Model_over [.ref 88, .int x1, .int x2, .int x3] C I 0 0 (some (.int r.1)) C r.2 := by
  unfold M_Model_over
  refine kM.of (by decide +kernel) (Nat.le_of_ble_eq_true rfl) (lv := [.ref 88, .int x1, .int x2, .int x3]) rfl (fun X hX hE => ?_)
  refine kx_go 4 (pc' := 4) (lv' := [.ref 88, .int x1, .int x2, .int x3]) (st' := [.int x3, .int x2, .int x1, .ref 88]) hX ok_Model_over rfl ?_
  refine kx_V (r := 88) (as := [.int x1, .int x2, .int x3]) (by decide) hX ok_Model_over (nx := 7) rfl l_Model_187 (by decide) rfl (fun _ => s_Model_isTold (G := G) (d := 2) (Nat.le_refl _) C I x1 x2 x3 _ rfl) (by omega) rfl (rest := []) rfl (Nat.le_of_ble_eq_true rfl) ⟨Nat.le_of_ble_eq_true rfl, Nat.le_of_ble_eq_true rfl⟩ ?_
  show _ → kW G X m_Model_over C I 0 0 7 [.ref 88, .int x1, .int x2, .int x3] [.int (M_Model_isTold I x1 x2 x3)]
  refine kx_go 1 (pc' := if (M_Model_isTold I x1 x2 x3) = (0 : Int32) then 10 else 16) (lv' := [.ref 88, .int x1, .int x2, .int x3]) (st' := []) hX ok_Model_over rfl ?_
  refine kx_ite (fun c1 => ?_) (fun c1 => ?_)
  · refine kx_go 2 (pc' := 12) (lv' := [.ref 88, .int x1, .int x2, .int x3]) (st' := [.int (1 : Int32), .ref 88]) hX ok_Model_over rfl ?_
    refine kx_bind (fun p2 hp2 => ?_)
    refine kx_V (r := 88) (as := [.int (1 : Int32)]) (by decide) hX ok_Model_over (nx := 15) rfl l_Model_129 (by decide) rfl (fun _ => s_Model_finds (G := G) (d := 0) (Nat.le_refl _) C I (1 : Int32) p2 hp2) (by omega) rfl (rest := []) rfl (Nat.le_of_ble_eq_true rfl) ⟨Nat.le_of_ble_eq_true rfl, Nat.le_of_ble_eq_true rfl⟩ ?_
    show _ → kW G X m_Model_over C p2.2 0 0 15 [.ref 88, .int x1, .int x2, .int x3] [.int p2.1]
    intro h; have h := Option.some.inj h; subst h
    exact kx_iret hX hE ok_Model_over (nx := 16) rfl rfl ⟨Nat.le_of_ble_eq_true rfl, Nat.le_of_ble_eq_true rfl⟩
  · refine kx_go 1 (pc' := 17) (lv' := [.ref 88, .int x1, .int x2, .int x3]) (st' := [.ref 88]) hX ok_Model_over rfl ?_
    refine kx_getp hX ok_Model_over rfl (q := 89) (nx := 20) rfl ?_
    refine kx_go 1 (pc' := 21) (lv' := [.ref 88, .int x1, .int x2, .int x3]) (st' := [.int (1 : Int32), .ref 89]) hX ok_Model_over rfl ?_
    refine kx_ialdc hX ok_Model_over (w := 270) (nx := 22) rfl rfl (k := 1) rfl ?_
    refine kx_go 2 (pc' := if (I 89 1) = (12 : Int32) then 27 else 35) (lv' := [.ref 88, .int x1, .int x2, .int x3]) (st' := []) hX ok_Model_over rfl ?_
    refine kx_ite (fun c3 => ?_) (fun c3 => ?_)
    · refine kx_go 2 (pc' := 29) (lv' := [.ref 88, .int x1, .int x2, .int x3]) (st' := [.int (4 : Int32), .ref 88]) hX ok_Model_over rfl ?_
      refine kx_bind (fun p4 hp4 => ?_)
      refine kx_V (r := 88) (as := [.int (4 : Int32)]) (by decide) hX ok_Model_over (nx := 32) rfl l_Model_129 (by decide) rfl (fun _ => s_Model_finds (G := G) (d := 0) (Nat.le_refl _) C I (4 : Int32) p4 hp4) (by omega) rfl (rest := []) rfl (Nat.le_of_ble_eq_true rfl) ⟨Nat.le_of_ble_eq_true rfl, Nat.le_of_ble_eq_true rfl⟩ ?_
      show _ → kW G X m_Model_over C p4.2 0 0 32 [.ref 88, .int x1, .int x2, .int x3] [.int p4.1]
      refine kx_go 1 (pc' := 42) (lv' := [.ref 88, .int x1, .int x2, .int x3]) (st' := [.int p4.1]) hX ok_Model_over rfl ?_
      intro h; have h := Option.some.inj h; subst h
      exact kx_iret hX hE ok_Model_over (nx := 43) rfl rfl ⟨Nat.le_of_ble_eq_true rfl, Nat.le_of_ble_eq_true rfl⟩
    · refine kx_go 4 (pc' := 39) (lv' := [.ref 88, .int x1, .int x2, .int x3]) (st' := [.int x3, .int x2, .int x1, .ref 88]) hX ok_Model_over rfl ?_
      refine kx_bind (fun p5 hp5 => ?_)
      refine kx_V (r := 88) (as := [.int x1, .int x2, .int x3]) (by decide) hX ok_Model_over (nx := 42) rfl l_Model_191 (by decide) rfl (fun _ => s_Model_lookComes (G := G) (d := 0) (Nat.le_refl _) C I x1 x2 x3 p5 hp5) (by omega) rfl (rest := []) rfl (Nat.le_of_ble_eq_true rfl) ⟨Nat.le_of_ble_eq_true rfl, Nat.le_of_ble_eq_true rfl⟩ ?_
      show _ → kW G X m_Model_over C p5.2 0 0 42 [.ref 88, .int x1, .int x2, .int x3] [.int p5.1]
      intro h; have h := Option.some.inj h; subst h
      exact kx_iret hX hE ok_Model_over (nx := 43) rfl rfl ⟨Nat.le_of_ble_eq_true rfl, Nat.le_of_ble_eq_true rfl⟩
def M_Model_isLook (I : HI) (x1 : Int32) : Int32 := (M_Model_in (x1.toInt64) (Int64.ofNat 0) (((I 89 1) - (1 : Int32)).toInt64))
theorem s_Model_isLook {G : xG} {d : Nat} (hd : 1 ≤ d) (C : HC) (I : HI) (x1 : Int32)  (r : Int32) : M_Model_isLook I x1 = r → kM G d m_Model_isLook [.ref 88, .int x1] C I 0 0 (some (.int r)) C I := by
  unfold M_Model_isLook
  refine kM.of (by decide +kernel) (Nat.le_of_ble_eq_true rfl) (lv := [.ref 88, .int x1]) rfl (fun X hX hE => ?_)
  refine kx_go 4 (pc' := 4) (lv' := [.ref 88, .int x1]) (st' := [.ref 88, .long (Int64.ofNat 0), .long (x1.toInt64)]) hX ok_Model_isLook rfl ?_
  refine kx_getp hX ok_Model_isLook rfl (q := 89) (nx := 7) rfl ?_
  refine kx_go 1 (pc' := 8) (lv' := [.ref 88, .int x1]) (st' := [.int (1 : Int32), .ref 89, .long (Int64.ofNat 0), .long (x1.toInt64)]) hX ok_Model_isLook rfl ?_
  refine kx_ialdc hX ok_Model_isLook (w := 270) (nx := 9) rfl rfl (k := 1) rfl ?_
  refine kx_go 3 (pc' := 12) (lv' := [.ref 88, .int x1]) (st' := [.long (((I 89 1) - (1 : Int32)).toInt64), .long (Int64.ofNat 0), .long (x1.toInt64)]) hX ok_Model_isLook rfl ?_
  refine kx_S (as := [.long (x1.toInt64), .long (Int64.ofNat 0), .long (((I 89 1) - (1 : Int32)).toInt64)]) hX ok_Model_isLook (nx := 15) rfl l_Model_66 (fun _ => s_Model_in (G := G) (d := 0) (Nat.le_refl _) C I (x1.toInt64) (Int64.ofNat 0) (((I 89 1) - (1 : Int32)).toInt64) _ rfl) (by omega) rfl (rest := []) rfl (Nat.le_of_ble_eq_true rfl) ⟨Nat.le_of_ble_eq_true rfl, Nat.le_of_ble_eq_true rfl⟩ ?_
  show _ → kW G X m_Model_isLook C I 0 0 15 [.ref 88, .int x1] [.int (M_Model_in (x1.toInt64) (Int64.ofNat 0) (((I 89 1) - (1 : Int32)).toInt64))]
  rintro rfl
  exact kx_zret hX hE ok_Model_isLook (nx := 16) rfl rfl (b_Model_in ..) ⟨Nat.le_of_ble_eq_true rfl, Nat.le_of_ble_eq_true rfl⟩
def M_Model_upper (I : HI) (x1 : Int32) : Option (Int32) := grd (bnd ((61 : Int32) + ((3 : Int32) * x1)) 270) (some (I 89 ((61 : Int32) + ((3 : Int32) * x1)).toNatClampNeg))
theorem s_Model_upper {G : xG} {d : Nat} (hd : 0 ≤ d) (C : HC) (I : HI) (x1 : Int32)  (r : Int32) : M_Model_upper I x1 = some r → kM G d m_Model_upper [.ref 88, .int x1] C I 0 0 (some (.int r)) C I := by
  unfold M_Model_upper
  refine kM.of (by decide +kernel) (Nat.le_of_ble_eq_true rfl) (lv := [.ref 88, .int x1]) rfl (fun X hX hE => ?_)
  refine kx_go 1 (pc' := 1) (lv' := [.ref 88, .int x1]) (st' := [.ref 88]) hX ok_Model_upper rfl ?_
  refine kx_getp hX ok_Model_upper rfl (q := 89) (nx := 4) rfl ?_
  refine kx_go 5 (pc' := 10) (lv' := [.ref 88, .int x1]) (st' := [.int ((61 : Int32) + ((3 : Int32) * x1)), .ref 89]) hX ok_Model_upper rfl ?_
  refine kx_iald hX ok_Model_upper (w := 270) (nx := 11) rfl (fun b1 => ?_)
  intro h; have h := Option.some.inj h; subst h
  exact kx_iret hX hE ok_Model_upper (nx := 12) rfl rfl ⟨Nat.le_of_ble_eq_true rfl, Nat.le_of_ble_eq_true rfl⟩
def M_Model_weightOf (I : HI) (x1 : Int32) : Option (Int32 × HI) := grd (bnd (((61 : Int32) + ((3 : Int32) * x1)) + (2 : Int32)) 270) (Option.bind (M_Model_upper I x1) fun p2 => Option.bind (M_Model_of I p2 (0 : Int32)) fun p3 => Option.bind (M_Model_upper I x1) fun p4 => Option.bind (M_Model_of I p4 (6 : Int32)) fun p5 => Option.bind (M_Model_gives I (1 : Int32) (I 89 (((61 : Int32) + ((3 : Int32) * x1)) + (2 : Int32)).toNatClampNeg) p3 p5 (0 : Int32)) fun p6 => some (p6.1, p6.2))
theorem s_Model_weightOf {G : xG} {d : Nat} (hd : 50 ≤ d) (C : HC) (I : HI) (x1 : Int32)  (r : Int32 × HI) : M_Model_weightOf I x1 = some r → kM G d m_Model_weightOf [.ref 88, .int x1] C I 0 0 (some (.int r.1)) C r.2 := by
  unfold M_Model_weightOf
  refine kM.of (by decide +kernel) (Nat.le_of_ble_eq_true rfl) (lv := [.ref 88, .int x1]) rfl (fun X hX hE => ?_)
  refine kx_go 3 (pc' := 3) (lv' := [.ref 88, .int x1]) (st' := [.ref 88, .int (1 : Int32), .ref 88]) hX ok_Model_weightOf rfl ?_
  refine kx_getp hX ok_Model_weightOf rfl (q := 89) (nx := 6) rfl ?_
  refine kx_go 7 (pc' := 14) (lv' := [.ref 88, .int x1]) (st' := [.int (((61 : Int32) + ((3 : Int32) * x1)) + (2 : Int32)), .ref 89, .int (1 : Int32), .ref 88]) hX ok_Model_weightOf rfl ?_
  refine kx_iald hX ok_Model_weightOf (w := 270) (nx := 15) rfl (fun b1 => ?_)
  refine kx_go 3 (pc' := 18) (lv' := [.ref 88, .int x1]) (st' := [.int x1, .ref 88, .ref 88, .int (I 89 (((61 : Int32) + ((3 : Int32) * x1)) + (2 : Int32)).toNatClampNeg), .int (1 : Int32), .ref 88]) hX ok_Model_weightOf rfl ?_
  refine kx_bind (fun p2 hp2 => ?_)
  refine kx_V (r := 88) (as := [.int x1]) (by decide) hX ok_Model_weightOf (nx := 21) rfl l_Model_194 (by decide) rfl (fun _ => s_Model_upper (G := G) (d := 0) (Nat.le_refl _) C I x1 p2 hp2) (by omega) rfl (rest := [.ref 88, .int (I 89 (((61 : Int32) + ((3 : Int32) * x1)) + (2 : Int32)).toNatClampNeg), .int (1 : Int32), .ref 88]) rfl (Nat.le_of_ble_eq_true rfl) ⟨Nat.le_of_ble_eq_true rfl, Nat.le_of_ble_eq_true rfl⟩ ?_
  show _ → kW G X m_Model_weightOf C I 0 0 21 [.ref 88, .int x1] [.int p2, .ref 88, .int (I 89 (((61 : Int32) + ((3 : Int32) * x1)) + (2 : Int32)).toNatClampNeg), .int (1 : Int32), .ref 88]
  refine kx_go 1 (pc' := 22) (lv' := [.ref 88, .int x1]) (st' := [.int (0 : Int32), .int p2, .ref 88, .int (I 89 (((61 : Int32) + ((3 : Int32) * x1)) + (2 : Int32)).toNatClampNeg), .int (1 : Int32), .ref 88]) hX ok_Model_weightOf rfl ?_
  refine kx_bind (fun p3 hp3 => ?_)
  refine kx_V (r := 88) (as := [.int p2, .int (0 : Int32)]) (by decide) hX ok_Model_weightOf (nx := 25) rfl l_Model_155 (by decide) rfl (fun _ => s_Model_of (G := G) (d := 0) (Nat.le_refl _) C I p2 (0 : Int32) p3 hp3) (by omega) rfl (rest := [.int (I 89 (((61 : Int32) + ((3 : Int32) * x1)) + (2 : Int32)).toNatClampNeg), .int (1 : Int32), .ref 88]) rfl (Nat.le_of_ble_eq_true rfl) ⟨Nat.le_of_ble_eq_true rfl, Nat.le_of_ble_eq_true rfl⟩ ?_
  show _ → kW G X m_Model_weightOf C I 0 0 25 [.ref 88, .int x1] [.int p3, .int (I 89 (((61 : Int32) + ((3 : Int32) * x1)) + (2 : Int32)).toNatClampNeg), .int (1 : Int32), .ref 88]
  refine kx_go 3 (pc' := 28) (lv' := [.ref 88, .int x1]) (st' := [.int x1, .ref 88, .ref 88, .int p3, .int (I 89 (((61 : Int32) + ((3 : Int32) * x1)) + (2 : Int32)).toNatClampNeg), .int (1 : Int32), .ref 88]) hX ok_Model_weightOf rfl ?_
  refine kx_bind (fun p4 hp4 => ?_)
  refine kx_V (r := 88) (as := [.int x1]) (by decide) hX ok_Model_weightOf (nx := 31) rfl l_Model_194 (by decide) rfl (fun _ => s_Model_upper (G := G) (d := 0) (Nat.le_refl _) C I x1 p4 hp4) (by omega) rfl (rest := [.ref 88, .int p3, .int (I 89 (((61 : Int32) + ((3 : Int32) * x1)) + (2 : Int32)).toNatClampNeg), .int (1 : Int32), .ref 88]) rfl (Nat.le_of_ble_eq_true rfl) ⟨Nat.le_of_ble_eq_true rfl, Nat.le_of_ble_eq_true rfl⟩ ?_
  show _ → kW G X m_Model_weightOf C I 0 0 31 [.ref 88, .int x1] [.int p4, .ref 88, .int p3, .int (I 89 (((61 : Int32) + ((3 : Int32) * x1)) + (2 : Int32)).toNatClampNeg), .int (1 : Int32), .ref 88]
  refine kx_go 1 (pc' := 33) (lv' := [.ref 88, .int x1]) (st' := [.int (6 : Int32), .int p4, .ref 88, .int p3, .int (I 89 (((61 : Int32) + ((3 : Int32) * x1)) + (2 : Int32)).toNatClampNeg), .int (1 : Int32), .ref 88]) hX ok_Model_weightOf rfl ?_
  refine kx_bind (fun p5 hp5 => ?_)
  refine kx_V (r := 88) (as := [.int p4, .int (6 : Int32)]) (by decide) hX ok_Model_weightOf (nx := 36) rfl l_Model_155 (by decide) rfl (fun _ => s_Model_of (G := G) (d := 0) (Nat.le_refl _) C I p4 (6 : Int32) p5 hp5) (by omega) rfl (rest := [.int p3, .int (I 89 (((61 : Int32) + ((3 : Int32) * x1)) + (2 : Int32)).toNatClampNeg), .int (1 : Int32), .ref 88]) rfl (Nat.le_of_ble_eq_true rfl) ⟨Nat.le_of_ble_eq_true rfl, Nat.le_of_ble_eq_true rfl⟩ ?_
  show _ → kW G X m_Model_weightOf C I 0 0 36 [.ref 88, .int x1] [.int p5, .int p3, .int (I 89 (((61 : Int32) + ((3 : Int32) * x1)) + (2 : Int32)).toNatClampNeg), .int (1 : Int32), .ref 88]
  refine kx_go 1 (pc' := 37) (lv' := [.ref 88, .int x1]) (st' := [.int (0 : Int32), .int p5, .int p3, .int (I 89 (((61 : Int32) + ((3 : Int32) * x1)) + (2 : Int32)).toNatClampNeg), .int (1 : Int32), .ref 88]) hX ok_Model_weightOf rfl ?_
  refine kx_bind (fun p6 hp6 => ?_)
  refine kx_V (r := 88) (as := [.int (1 : Int32), .int (I 89 (((61 : Int32) + ((3 : Int32) * x1)) + (2 : Int32)).toNatClampNeg), .int p3, .int p5, .int (0 : Int32)]) (by decide) hX ok_Model_weightOf (nx := 40) rfl l_Model_141 (by decide) rfl (fun _ => s_Model_gives (G := G) (d := 49) (Nat.le_refl _) C I (1 : Int32) (I 89 (((61 : Int32) + ((3 : Int32) * x1)) + (2 : Int32)).toNatClampNeg) p3 p5 (0 : Int32) p6 hp6) (by omega) rfl (rest := []) rfl (Nat.le_of_ble_eq_true rfl) ⟨Nat.le_of_ble_eq_true rfl, Nat.le_of_ble_eq_true rfl⟩ ?_
  show _ → kW G X m_Model_weightOf C p6.2 0 0 40 [.ref 88, .int x1] [.int p6.1]
  intro h; have h := Option.some.inj h; subst h
  exact kx_iret hX hE ok_Model_weightOf (nx := 41) rfl rfl ⟨Nat.le_of_ble_eq_true rfl, Nat.le_of_ble_eq_true rfl⟩
def M_Model_ofLook (I : HI) (x1 : Int32) (x2 : Int32) : Option (Int32 × HI) := if (M_Model_isLook I x1) = (0 : Int32) then (Option.bind (M_Model_finds I (1 : Int32)) fun p2 => some (p2.1, p2.2)) else (if (M_Model_in (x2.toInt64) (Int64.ofNat 0) (Int64.ofNat 3)) = (0 : Int32) then (Option.bind (M_Model_finds I (1 : Int32)) fun p4 => some (p4.1, p4.2)) else (if (3 : Int32) ≤ x2 then (Option.bind (M_Model_weightOf I x1) fun p6 => some (p6.1, p6.2)) else (grd (bnd (((61 : Int32) + ((3 : Int32) * x1)) + x2) 270) (some ((I 89 (((61 : Int32) + ((3 : Int32) * x1)) + x2).toNatClampNeg), I)))))
theorem s_Model_ofLook {G : xG} {d : Nat} (hd : 51 ≤ d) (C : HC) (I : HI) (x1 : Int32) (x2 : Int32)  (r : Int32 × HI) : M_Model_ofLook I x1 x2 = some r → kM G d m_Model_ofLook [.ref 88, .int x1, .int x2] C I 0 0 (some (.int r.1)) C r.2 := by
  unfold M_Model_ofLook
  refine kM.of (by decide +kernel) (Nat.le_of_ble_eq_true rfl) (lv := [.ref 88, .int x1, .int x2]) rfl (fun X hX hE => ?_)
  refine kx_go 2 (pc' := 2) (lv' := [.ref 88, .int x1, .int x2]) (st' := [.int x1, .ref 88]) hX ok_Model_ofLook rfl ?_
  refine kx_V (r := 88) (as := [.int x1]) (by decide) hX ok_Model_ofLook (nx := 5) rfl l_Model_197 (by decide) rfl (fun _ => s_Model_isLook (G := G) (d := 1) (Nat.le_refl _) C I x1 _ rfl) (by omega) rfl (rest := []) rfl (Nat.le_of_ble_eq_true rfl) ⟨Nat.le_of_ble_eq_true rfl, Nat.le_of_ble_eq_true rfl⟩ ?_
  show _ → kW G X m_Model_ofLook C I 0 0 5 [.ref 88, .int x1, .int x2] [.int (M_Model_isLook I x1)]
  refine kx_go 1 (pc' := if (M_Model_isLook I x1) = (0 : Int32) then 20 else 8) (lv' := [.ref 88, .int x1, .int x2]) (st' := []) hX ok_Model_ofLook rfl ?_
  refine kx_ite (fun c1 => ?_) (fun c1 => ?_)
  · refine kx_go 2 (pc' := 22) (lv' := [.ref 88, .int x1, .int x2]) (st' := [.int (1 : Int32), .ref 88]) hX ok_Model_ofLook rfl ?_
    refine kx_bind (fun p2 hp2 => ?_)
    refine kx_V (r := 88) (as := [.int (1 : Int32)]) (by decide) hX ok_Model_ofLook (nx := 25) rfl l_Model_129 (by decide) rfl (fun _ => s_Model_finds (G := G) (d := 0) (Nat.le_refl _) C I (1 : Int32) p2 hp2) (by omega) rfl (rest := []) rfl (Nat.le_of_ble_eq_true rfl) ⟨Nat.le_of_ble_eq_true rfl, Nat.le_of_ble_eq_true rfl⟩ ?_
    show _ → kW G X m_Model_ofLook C p2.2 0 0 25 [.ref 88, .int x1, .int x2] [.int p2.1]
    intro h; have h := Option.some.inj h; subst h
    exact kx_iret hX hE ok_Model_ofLook (nx := 26) rfl rfl ⟨Nat.le_of_ble_eq_true rfl, Nat.le_of_ble_eq_true rfl⟩
  · refine kx_go 4 (pc' := 14) (lv' := [.ref 88, .int x1, .int x2]) (st' := [.long (Int64.ofNat 3), .long (Int64.ofNat 0), .long (x2.toInt64)]) hX ok_Model_ofLook rfl ?_
    refine kx_S (as := [.long (x2.toInt64), .long (Int64.ofNat 0), .long (Int64.ofNat 3)]) hX ok_Model_ofLook (nx := 17) rfl l_Model_66 (fun _ => s_Model_in (G := G) (d := 0) (Nat.le_refl _) C I (x2.toInt64) (Int64.ofNat 0) (Int64.ofNat 3) _ rfl) (by omega) rfl (rest := []) rfl (Nat.le_of_ble_eq_true rfl) ⟨Nat.le_of_ble_eq_true rfl, Nat.le_of_ble_eq_true rfl⟩ ?_
    show _ → kW G X m_Model_ofLook C I 0 0 17 [.ref 88, .int x1, .int x2] [.int (M_Model_in (x2.toInt64) (Int64.ofNat 0) (Int64.ofNat 3))]
    refine kx_go 1 (pc' := if (M_Model_in (x2.toInt64) (Int64.ofNat 0) (Int64.ofNat 3)) = (0 : Int32) then 20 else 26) (lv' := [.ref 88, .int x1, .int x2]) (st' := []) hX ok_Model_ofLook rfl ?_
    refine kx_ite (fun c3 => ?_) (fun c3 => ?_)
    · refine kx_go 2 (pc' := 22) (lv' := [.ref 88, .int x1, .int x2]) (st' := [.int (1 : Int32), .ref 88]) hX ok_Model_ofLook rfl ?_
      refine kx_bind (fun p4 hp4 => ?_)
      refine kx_V (r := 88) (as := [.int (1 : Int32)]) (by decide) hX ok_Model_ofLook (nx := 25) rfl l_Model_129 (by decide) rfl (fun _ => s_Model_finds (G := G) (d := 0) (Nat.le_refl _) C I (1 : Int32) p4 hp4) (by omega) rfl (rest := []) rfl (Nat.le_of_ble_eq_true rfl) ⟨Nat.le_of_ble_eq_true rfl, Nat.le_of_ble_eq_true rfl⟩ ?_
      show _ → kW G X m_Model_ofLook C p4.2 0 0 25 [.ref 88, .int x1, .int x2] [.int p4.1]
      intro h; have h := Option.some.inj h; subst h
      exact kx_iret hX hE ok_Model_ofLook (nx := 26) rfl rfl ⟨Nat.le_of_ble_eq_true rfl, Nat.le_of_ble_eq_true rfl⟩
    · refine kx_go 3 (pc' := if (3 : Int32) ≤ x2 then 47 else 31) (lv' := [.ref 88, .int x1, .int x2]) (st' := []) hX ok_Model_ofLook rfl ?_
      refine kx_ite (fun c5 => ?_) (fun c5 => ?_)
      · refine kx_go 2 (pc' := 49) (lv' := [.ref 88, .int x1, .int x2]) (st' := [.int x1, .ref 88]) hX ok_Model_ofLook rfl ?_
        refine kx_bind (fun p6 hp6 => ?_)
        refine kx_V (r := 88) (as := [.int x1]) (by decide) hX ok_Model_ofLook (nx := 52) rfl l_Model_202 (by decide) rfl (fun _ => s_Model_weightOf (G := G) (d := 50) (Nat.le_refl _) C I x1 p6 hp6) (by omega) rfl (rest := []) rfl (Nat.le_of_ble_eq_true rfl) ⟨Nat.le_of_ble_eq_true rfl, Nat.le_of_ble_eq_true rfl⟩ ?_
        show _ → kW G X m_Model_ofLook C p6.2 0 0 52 [.ref 88, .int x1, .int x2] [.int p6.1]
        intro h; have h := Option.some.inj h; subst h
        exact kx_iret hX hE ok_Model_ofLook (nx := 53) rfl rfl ⟨Nat.le_of_ble_eq_true rfl, Nat.le_of_ble_eq_true rfl⟩
      · refine kx_go 1 (pc' := 32) (lv' := [.ref 88, .int x1, .int x2]) (st' := [.ref 88]) hX ok_Model_ofLook rfl ?_
        refine kx_getp hX ok_Model_ofLook rfl (q := 89) (nx := 35) rfl ?_
        refine kx_go 7 (pc' := 43) (lv' := [.ref 88, .int x1, .int x2]) (st' := [.int (((61 : Int32) + ((3 : Int32) * x1)) + x2), .ref 89]) hX ok_Model_ofLook rfl ?_
        refine kx_iald hX ok_Model_ofLook (w := 270) (nx := 44) rfl (fun b7 => ?_)
        refine kx_go 1 (pc' := 52) (lv' := [.ref 88, .int x1, .int x2]) (st' := [.int (I 89 (((61 : Int32) + ((3 : Int32) * x1)) + x2).toNatClampNeg)]) hX ok_Model_ofLook rfl ?_
        intro h; have h := Option.some.inj h; subst h
        exact kx_iret hX hE ok_Model_ofLook (nx := 53) rfl rfl ⟨Nat.le_of_ble_eq_true rfl, Nat.le_of_ble_eq_true rfl⟩
def M_Model_see (I : HI) (x1 : Int32) (x2 : Int32) : Option (Int32 × HI) := if (M_Model_isLook I x1) = (0 : Int32) then (Option.bind (M_Model_finds I (1 : Int32)) fun p2 => some (p2.1, p2.2)) else (if (M_Model_in (x2.toInt64) (Int64.ofNat 1) (Int64.ofNat 99)) = (0 : Int32) then (Option.bind (M_Model_finds I (1 : Int32)) fun p4 => some (p4.1, p4.2)) else (grd (bnd (((61 : Int32) + ((3 : Int32) * x1)) + (2 : Int32)) 270) (lt (I 89 (((61 : Int32) + ((3 : Int32) * x1)) + (2 : Int32)).toNatClampNeg) fun y6 => lt (xu I 89 (((61 : Int32) + ((3 : Int32) * x1)) + (2 : Int32)).toNatClampNeg x2) fun J7 => some (y6, J7))))
theorem s_Model_see {G : xG} {d : Nat} (hd : 2 ≤ d) (C : HC) (I : HI) (x1 : Int32) (x2 : Int32)  (r : Int32 × HI) : M_Model_see I x1 x2 = some r → kM G d m_Model_see [.ref 88, .int x1, .int x2] C I 0 0 (some (.int r.1)) C r.2 := by
  unfold M_Model_see
  refine kM.of (by decide +kernel) (Nat.le_of_ble_eq_true rfl) (lv := [.ref 88, .int x1, .int x2, .null]) rfl (fun X hX hE => ?_)
  refine kx_go 2 (pc' := 2) (lv' := [.ref 88, .int x1, .int x2, .null]) (st' := [.int x1, .ref 88]) hX ok_Model_see rfl ?_
  refine kx_V (r := 88) (as := [.int x1]) (by decide) hX ok_Model_see (nx := 5) rfl l_Model_197 (by decide) rfl (fun _ => s_Model_isLook (G := G) (d := 1) (Nat.le_refl _) C I x1 _ rfl) (by omega) rfl (rest := []) rfl (Nat.le_of_ble_eq_true rfl) ⟨Nat.le_of_ble_eq_true rfl, Nat.le_of_ble_eq_true rfl⟩ ?_
  show _ → kW G X m_Model_see C I 0 0 5 [.ref 88, .int x1, .int x2, .null] [.int (M_Model_isLook I x1)]
  refine kx_go 1 (pc' := if (M_Model_isLook I x1) = (0 : Int32) then 20 else 8) (lv' := [.ref 88, .int x1, .int x2, .null]) (st' := []) hX ok_Model_see rfl ?_
  refine kx_ite (fun c1 => ?_) (fun c1 => ?_)
  · refine kx_go 2 (pc' := 22) (lv' := [.ref 88, .int x1, .int x2, .null]) (st' := [.int (1 : Int32), .ref 88]) hX ok_Model_see rfl ?_
    refine kx_bind (fun p2 hp2 => ?_)
    refine kx_V (r := 88) (as := [.int (1 : Int32)]) (by decide) hX ok_Model_see (nx := 25) rfl l_Model_129 (by decide) rfl (fun _ => s_Model_finds (G := G) (d := 0) (Nat.le_refl _) C I (1 : Int32) p2 hp2) (by omega) rfl (rest := []) rfl (Nat.le_of_ble_eq_true rfl) ⟨Nat.le_of_ble_eq_true rfl, Nat.le_of_ble_eq_true rfl⟩ ?_
    show _ → kW G X m_Model_see C p2.2 0 0 25 [.ref 88, .int x1, .int x2, .null] [.int p2.1]
    intro h; have h := Option.some.inj h; subst h
    exact kx_iret hX hE ok_Model_see (nx := 26) rfl rfl ⟨Nat.le_of_ble_eq_true rfl, Nat.le_of_ble_eq_true rfl⟩
  · refine kx_go 4 (pc' := 14) (lv' := [.ref 88, .int x1, .int x2, .null]) (st' := [.long (Int64.ofNat 99), .long (Int64.ofNat 1), .long (x2.toInt64)]) hX ok_Model_see rfl ?_
    refine kx_S (as := [.long (x2.toInt64), .long (Int64.ofNat 1), .long (Int64.ofNat 99)]) hX ok_Model_see (nx := 17) rfl l_Model_66 (fun _ => s_Model_in (G := G) (d := 0) (Nat.le_refl _) C I (x2.toInt64) (Int64.ofNat 1) (Int64.ofNat 99) _ rfl) (by omega) rfl (rest := []) rfl (Nat.le_of_ble_eq_true rfl) ⟨Nat.le_of_ble_eq_true rfl, Nat.le_of_ble_eq_true rfl⟩ ?_
    show _ → kW G X m_Model_see C I 0 0 17 [.ref 88, .int x1, .int x2, .null] [.int (M_Model_in (x2.toInt64) (Int64.ofNat 1) (Int64.ofNat 99))]
    refine kx_go 1 (pc' := if (M_Model_in (x2.toInt64) (Int64.ofNat 1) (Int64.ofNat 99)) = (0 : Int32) then 20 else 26) (lv' := [.ref 88, .int x1, .int x2, .null]) (st' := []) hX ok_Model_see rfl ?_
    refine kx_ite (fun c3 => ?_) (fun c3 => ?_)
    · refine kx_go 2 (pc' := 22) (lv' := [.ref 88, .int x1, .int x2, .null]) (st' := [.int (1 : Int32), .ref 88]) hX ok_Model_see rfl ?_
      refine kx_bind (fun p4 hp4 => ?_)
      refine kx_V (r := 88) (as := [.int (1 : Int32)]) (by decide) hX ok_Model_see (nx := 25) rfl l_Model_129 (by decide) rfl (fun _ => s_Model_finds (G := G) (d := 0) (Nat.le_refl _) C I (1 : Int32) p4 hp4) (by omega) rfl (rest := []) rfl (Nat.le_of_ble_eq_true rfl) ⟨Nat.le_of_ble_eq_true rfl, Nat.le_of_ble_eq_true rfl⟩ ?_
      show _ → kW G X m_Model_see C p4.2 0 0 25 [.ref 88, .int x1, .int x2, .null] [.int p4.1]
      intro h; have h := Option.some.inj h; subst h
      exact kx_iret hX hE ok_Model_see (nx := 26) rfl rfl ⟨Nat.le_of_ble_eq_true rfl, Nat.le_of_ble_eq_true rfl⟩
    · refine kx_go 1 (pc' := 27) (lv' := [.ref 88, .int x1, .int x2, .null]) (st' := [.ref 88]) hX ok_Model_see rfl ?_
      refine kx_getp hX ok_Model_see rfl (q := 89) (nx := 30) rfl ?_
      refine kx_go 7 (pc' := 38) (lv' := [.ref 88, .int x1, .int x2, .null]) (st' := [.int (((61 : Int32) + ((3 : Int32) * x1)) + (2 : Int32)), .ref 89]) hX ok_Model_see rfl ?_
      refine kx_iald hX ok_Model_see (w := 270) (nx := 39) rfl (fun b5 => ?_)
      refine kx_go 1 (pc' := 40) (lv' := [.ref 88, .int x1, .int x2, .int (I 89 (((61 : Int32) + ((3 : Int32) * x1)) + (2 : Int32)).toNatClampNeg)]) (st' := []) hX ok_Model_see rfl ?_
      refine kx_lt (Q := fun y6 => kW G X m_Model_see C I 0 0 40 [.ref 88, .int x1, .int x2, .int y6] []) (fun y6 ey6 => ?_)
      refine kx_go 1 (pc' := 41) (lv' := [.ref 88, .int x1, .int x2, .int y6]) (st' := [.ref 88]) hX ok_Model_see rfl ?_
      refine kx_getp hX ok_Model_see rfl (q := 89) (nx := 44) rfl ?_
      refine kx_go 8 (pc' := 53) (lv' := [.ref 88, .int x1, .int x2, .int y6]) (st' := [.int x2, .int (((61 : Int32) + ((3 : Int32) * x1)) + (2 : Int32)), .ref 89]) hX ok_Model_see rfl ?_
      refine kx_iastc hX ok_Model_see (w := 270) (nx := 54) rfl b5 (k := (((61 : Int32) + ((3 : Int32) * x1)) + (2 : Int32)).toNatClampNeg) rfl ?_
      refine kx_lt (Q := fun J7 => kW G X m_Model_see C J7 0 0 54 [.ref 88, .int x1, .int x2, .int y6] []) (fun J7 eJ7 => ?_)
      refine kx_go 1 (pc' := 55) (lv' := [.ref 88, .int x1, .int x2, .int y6]) (st' := [.int y6]) hX ok_Model_see rfl ?_
      intro h; have h := Option.some.inj h; subst h
      exact kx_iret hX hE ok_Model_see (nx := 56) rfl rfl ⟨Nat.le_of_ble_eq_true rfl, Nat.le_of_ble_eq_true rfl⟩
def M_Model_forget (I : HI) : Option (Int32 × HI) := if (I 89 1) = (0 : Int32) then (Option.bind (M_Model_finds I (3 : Int32)) fun p2 => some (p2.1, p2.2)) else (lt (xu I 89 1 ((I 89 1) - (1 : Int32))) fun J3 => some ((J3 89 1), J3))
theorem s_Model_forget {G : xG} {d : Nat} (hd : 1 ≤ d) (C : HC) (I : HI)   (r : Int32 × HI) : M_Model_forget I = some r → kM G d m_Model_forget [.ref 88] C I 0 0 (some (.int r.1)) C r.2 := by
  unfold M_Model_forget
  refine kM.of (by decide +kernel) (Nat.le_of_ble_eq_true rfl) (lv := [.ref 88]) rfl (fun X hX hE => ?_)
  refine kx_go 1 (pc' := 1) (lv' := [.ref 88]) (st' := [.ref 88]) hX ok_Model_forget rfl ?_
  refine kx_getp hX ok_Model_forget rfl (q := 89) (nx := 4) rfl ?_
  refine kx_go 1 (pc' := 5) (lv' := [.ref 88]) (st' := [.int (1 : Int32), .ref 89]) hX ok_Model_forget rfl ?_
  refine kx_ialdc hX ok_Model_forget (w := 270) (nx := 6) rfl rfl (k := 1) rfl ?_
  refine kx_go 1 (pc' := if (I 89 1) = (0 : Int32) then 9 else 15) (lv' := [.ref 88]) (st' := []) hX ok_Model_forget rfl ?_
  refine kx_ite (fun c1 => ?_) (fun c1 => ?_)
  · refine kx_go 2 (pc' := 11) (lv' := [.ref 88]) (st' := [.int (3 : Int32), .ref 88]) hX ok_Model_forget rfl ?_
    refine kx_bind (fun p2 hp2 => ?_)
    refine kx_V (r := 88) (as := [.int (3 : Int32)]) (by decide) hX ok_Model_forget (nx := 14) rfl l_Model_129 (by decide) rfl (fun _ => s_Model_finds (G := G) (d := 0) (Nat.le_refl _) C I (3 : Int32) p2 hp2) (by omega) rfl (rest := []) rfl (Nat.le_of_ble_eq_true rfl) ⟨Nat.le_of_ble_eq_true rfl, Nat.le_of_ble_eq_true rfl⟩ ?_
    show _ → kW G X m_Model_forget C p2.2 0 0 14 [.ref 88] [.int p2.1]
    intro h; have h := Option.some.inj h; subst h
    exact kx_iret hX hE ok_Model_forget (nx := 15) rfl rfl ⟨Nat.le_of_ble_eq_true rfl, Nat.le_of_ble_eq_true rfl⟩
  · refine kx_go 1 (pc' := 16) (lv' := [.ref 88]) (st' := [.ref 88]) hX ok_Model_forget rfl ?_
    refine kx_getp hX ok_Model_forget rfl (q := 89) (nx := 19) rfl ?_
    refine kx_go 2 (pc' := 21) (lv' := [.ref 88]) (st' := [.int (1 : Int32), .ref 89, .int (1 : Int32), .ref 89]) hX ok_Model_forget rfl ?_
    refine kx_ialdc hX ok_Model_forget (w := 270) (nx := 22) rfl rfl (k := 1) rfl ?_
    refine kx_go 2 (pc' := 24) (lv' := [.ref 88]) (st' := [.int ((I 89 1) - (1 : Int32)), .int (1 : Int32), .ref 89]) hX ok_Model_forget rfl ?_
    refine kx_iastc hX ok_Model_forget (w := 270) (nx := 25) rfl rfl (k := 1) rfl ?_
    refine kx_lt (Q := fun J3 => kW G X m_Model_forget C J3 0 0 25 [.ref 88] []) (fun J3 eJ3 => ?_)
    refine kx_go 1 (pc' := 26) (lv' := [.ref 88]) (st' := [.ref 88]) hX ok_Model_forget rfl ?_
    refine kx_getp hX ok_Model_forget rfl (q := 89) (nx := 29) rfl ?_
    refine kx_go 1 (pc' := 30) (lv' := [.ref 88]) (st' := [.int (1 : Int32), .ref 89]) hX ok_Model_forget rfl ?_
    refine kx_ialdc hX ok_Model_forget (w := 270) (nx := 31) rfl rfl (k := 1) rfl ?_
    intro h; have h := Option.some.inj h; subst h
    exact kx_iret hX hE ok_Model_forget (nx := 32) rfl rfl ⟨Nat.le_of_ble_eq_true rfl, Nat.le_of_ble_eq_true rfl⟩
def L_Model_feed_40 (w1 : Int64) (x3 : Int32) : Nat → Int32 → HI → Option (HI)
  | 0, _, _ => none
  | f + 1, x4, I => if x3 ≤ x4 then (some I) else (grd (bnd ((219 : Int32) + (I 89 3)) 270) (lt (xu I 89 ((219 : Int32) + (I 89 3)).toNatClampNeg (((w1 >>> (((8 : Int32) * x4).toInt64 &&& (63 : Int64))) &&& (Int64.ofNat 255)).toInt32)) fun J3 => lt (xu J3 89 3 ((J3 89 3) + (1 : Int32))) fun J4 => L_Model_feed_40 w1 x3 f (x4 + (1 : Int32)) J4))
theorem s_L_Model_feed_40 {G : xG} {X : xC} {d : Nat} (hd : 1 ≤ d) (hX : xAmb G X m_Model_feed d 0 0)  (C : HC) (w1 : Int64) (x3 : Int32) : ∀ (f : Nat) (x4 : Int32) (I : HI) (r : HI), (kW G X m_Model_feed C r 0 0 89 [.ref 88, .null, .null, .null, .null] []) → L_Model_feed_40 w1 x3 f x4 I = some r → kW G X m_Model_feed C I 0 0 40 [.ref 88, .long w1, .null, .int x3, .int x4] [] := by
  intro f
  induction f with
  | zero => intro x4 I r hk h; rw [L_Model_feed_40] at h; cases h
  | succ f ih =>
    intro x4 I r hk
    rw [L_Model_feed_40]
    refine kx_go 3 (pc' := if x3 ≤ x4 then 89 else 46) (lv' := [.ref 88, .long w1, .null, .int x3, .int x4]) (st' := []) hX ok_Model_feed rfl ?_
    refine kx_ite (fun c1 => ?_) (fun c1 => ?_)
    · refine kx_weak (lv' := [.ref 88, .null, .null, .null, .null]) (by simp [xsub]) ?_
      intro h; have h := Option.some.inj h; subst h
      exact hk
    · refine kx_go 1 (pc' := 47) (lv' := [.ref 88, .long w1, .null, .int x3, .int x4]) (st' := [.ref 88]) hX ok_Model_feed rfl ?_
      refine kx_getp hX ok_Model_feed rfl (q := 89) (nx := 50) rfl ?_
      refine kx_go 2 (pc' := 54) (lv' := [.ref 88, .long w1, .null, .int x3, .int x4]) (st' := [.ref 88, .int (219 : Int32), .ref 89]) hX ok_Model_feed rfl ?_
      refine kx_getp hX ok_Model_feed rfl (q := 89) (nx := 57) rfl ?_
      refine kx_go 1 (pc' := 58) (lv' := [.ref 88, .long w1, .null, .int x3, .int x4]) (st' := [.int (3 : Int32), .ref 89, .int (219 : Int32), .ref 89]) hX ok_Model_feed rfl ?_
      refine kx_ialdc hX ok_Model_feed (w := 270) (nx := 59) rfl rfl (k := 3) rfl ?_
      refine kx_go 9 (pc' := 72) (lv' := [.ref 88, .long w1, .null, .int x3, .int x4]) (st' := [.int (((w1 >>> (((8 : Int32) * x4).toInt64 &&& (63 : Int64))) &&& (Int64.ofNat 255)).toInt32), .int ((219 : Int32) + (I 89 3)), .ref 89]) hX ok_Model_feed rfl ?_
      refine kx_iast hX ok_Model_feed (w := 270) (nx := 73) rfl (fun b2 => ?_)
      refine kx_lt (Q := fun J3 => kW G X m_Model_feed C J3 0 0 73 [.ref 88, .long w1, .null, .int x3, .int x4] []) (fun J3 eJ3 => ?_)
      refine kx_go 1 (pc' := 74) (lv' := [.ref 88, .long w1, .null, .int x3, .int x4]) (st' := [.ref 88]) hX ok_Model_feed rfl ?_
      refine kx_getp hX ok_Model_feed rfl (q := 89) (nx := 77) rfl ?_
      refine kx_go 2 (pc' := 79) (lv' := [.ref 88, .long w1, .null, .int x3, .int x4]) (st' := [.int (3 : Int32), .ref 89, .int (3 : Int32), .ref 89]) hX ok_Model_feed rfl ?_
      refine kx_ialdc hX ok_Model_feed (w := 270) (nx := 80) rfl rfl (k := 3) rfl ?_
      refine kx_go 2 (pc' := 82) (lv' := [.ref 88, .long w1, .null, .int x3, .int x4]) (st' := [.int ((J3 89 3) + (1 : Int32)), .int (3 : Int32), .ref 89]) hX ok_Model_feed rfl ?_
      refine kx_iastc hX ok_Model_feed (w := 270) (nx := 83) rfl rfl (k := 3) rfl ?_
      refine kx_lt (Q := fun J4 => kW G X m_Model_feed C J4 0 0 83 [.ref 88, .long w1, .null, .int x3, .int x4] []) (fun J4 eJ4 => ?_)
      refine kx_go 2 (pc' := 40) (lv' := [.ref 88, .long w1, .null, .int x3, .int (x4 + (1 : Int32))]) (st' := []) hX ok_Model_feed rfl ?_
      exact fun h => ih (x4 + (1 : Int32)) J4 r hk h
def M_Model_feed (I : HI) (w1 : Int64) (x3 : Int32) : Option (Int32 × HI) := if (M_Model_in (x3.toInt64) (Int64.ofNat 1) (Int64.ofNat 8)) = (0 : Int32) then (Option.bind (M_Model_finds I (1 : Int32)) fun p2 => some (p2.1, p2.2)) else (if ((I 89 3) + x3) ≤ (50 : Int32) then (Option.bind (L_Model_feed_40 w1 x3 1000 (0 : Int32) I) fun p4 => some ((p4 89 3), p4)) else (Option.bind (M_Model_finds I (4 : Int32)) fun p5 => some (p5.1, p5.2)))
theorem s_Model_feed {G : xG} {d : Nat} (hd : 1 ≤ d) (C : HC) (I : HI) (w1 : Int64) (x3 : Int32)  (r : Int32 × HI) : M_Model_feed I w1 x3 = some r → kM G d m_Model_feed [.ref 88, .long w1, .int x3] C I 0 0 (some (.int r.1)) C r.2 := by
  unfold M_Model_feed
  refine kM.of (by decide +kernel) (Nat.le_of_ble_eq_true rfl) (lv := [.ref 88, .long w1, .null, .int x3, .null]) rfl (fun X hX hE => ?_)
  refine kx_go 4 (pc' := 6) (lv' := [.ref 88, .long w1, .null, .int x3, .null]) (st' := [.long (Int64.ofNat 8), .long (Int64.ofNat 1), .long (x3.toInt64)]) hX ok_Model_feed rfl ?_
  refine kx_S (as := [.long (x3.toInt64), .long (Int64.ofNat 1), .long (Int64.ofNat 8)]) hX ok_Model_feed (nx := 9) rfl l_Model_66 (fun _ => s_Model_in (G := G) (d := 0) (Nat.le_refl _) C I (x3.toInt64) (Int64.ofNat 1) (Int64.ofNat 8) _ rfl) (by omega) rfl (rest := []) rfl (Nat.le_of_ble_eq_true rfl) ⟨Nat.le_of_ble_eq_true rfl, Nat.le_of_ble_eq_true rfl⟩ ?_
  show _ → kW G X m_Model_feed C I 0 0 9 [.ref 88, .long w1, .null, .int x3, .null] [.int (M_Model_in (x3.toInt64) (Int64.ofNat 1) (Int64.ofNat 8))]
  refine kx_go 1 (pc' := if (M_Model_in (x3.toInt64) (Int64.ofNat 1) (Int64.ofNat 8)) = (0 : Int32) then 12 else 18) (lv' := [.ref 88, .long w1, .null, .int x3, .null]) (st' := []) hX ok_Model_feed rfl ?_
  refine kx_ite (fun c1 => ?_) (fun c1 => ?_)
  · refine kx_go 2 (pc' := 14) (lv' := [.ref 88, .long w1, .null, .int x3, .null]) (st' := [.int (1 : Int32), .ref 88]) hX ok_Model_feed rfl ?_
    refine kx_bind (fun p2 hp2 => ?_)
    refine kx_V (r := 88) (as := [.int (1 : Int32)]) (by decide) hX ok_Model_feed (nx := 17) rfl l_Model_129 (by decide) rfl (fun _ => s_Model_finds (G := G) (d := 0) (Nat.le_refl _) C I (1 : Int32) p2 hp2) (by omega) rfl (rest := []) rfl (Nat.le_of_ble_eq_true rfl) ⟨Nat.le_of_ble_eq_true rfl, Nat.le_of_ble_eq_true rfl⟩ ?_
    show _ → kW G X m_Model_feed C p2.2 0 0 17 [.ref 88, .long w1, .null, .int x3, .null] [.int p2.1]
    intro h; have h := Option.some.inj h; subst h
    exact kx_iret hX hE ok_Model_feed (nx := 18) rfl rfl ⟨Nat.le_of_ble_eq_true rfl, Nat.le_of_ble_eq_true rfl⟩
  · refine kx_go 1 (pc' := 19) (lv' := [.ref 88, .long w1, .null, .int x3, .null]) (st' := [.ref 88]) hX ok_Model_feed rfl ?_
    refine kx_getp hX ok_Model_feed rfl (q := 89) (nx := 22) rfl ?_
    refine kx_go 1 (pc' := 23) (lv' := [.ref 88, .long w1, .null, .int x3, .null]) (st' := [.int (3 : Int32), .ref 89]) hX ok_Model_feed rfl ?_
    refine kx_ialdc hX ok_Model_feed (w := 270) (nx := 24) rfl rfl (k := 3) rfl ?_
    refine kx_go 4 (pc' := if ((I 89 3) + x3) ≤ (50 : Int32) then 37 else 31) (lv' := [.ref 88, .long w1, .null, .int x3, .null]) (st' := []) hX ok_Model_feed rfl ?_
    refine kx_ite (fun c3 => ?_) (fun c3 => ?_)
    · refine kx_go 2 (pc' := 40) (lv' := [.ref 88, .long w1, .null, .int x3, .int (0 : Int32)]) (st' := []) hX ok_Model_feed rfl ?_
      refine kx_bind (fun p4 hp4 => ?_)
      refine kx_via (fun hk => s_L_Model_feed_40 (G := G) (X := X) (by omega) hX C w1 x3 1000 (0 : Int32) I p4 hk hp4) ?_
      refine kx_go 1 (pc' := 90) (lv' := [.ref 88, .null, .null, .null, .null]) (st' := [.ref 88]) hX ok_Model_feed rfl ?_
      refine kx_getp hX ok_Model_feed rfl (q := 89) (nx := 93) rfl ?_
      refine kx_go 1 (pc' := 94) (lv' := [.ref 88, .null, .null, .null, .null]) (st' := [.int (3 : Int32), .ref 89]) hX ok_Model_feed rfl ?_
      refine kx_ialdc hX ok_Model_feed (w := 270) (nx := 95) rfl rfl (k := 3) rfl ?_
      intro h; have h := Option.some.inj h; subst h
      exact kx_iret hX hE ok_Model_feed (nx := 96) rfl rfl ⟨Nat.le_of_ble_eq_true rfl, Nat.le_of_ble_eq_true rfl⟩
    · refine kx_go 2 (pc' := 33) (lv' := [.ref 88, .long w1, .null, .int x3, .null]) (st' := [.int (4 : Int32), .ref 88]) hX ok_Model_feed rfl ?_
      refine kx_bind (fun p5 hp5 => ?_)
      refine kx_V (r := 88) (as := [.int (4 : Int32)]) (by decide) hX ok_Model_feed (nx := 36) rfl l_Model_129 (by decide) rfl (fun _ => s_Model_finds (G := G) (d := 0) (Nat.le_refl _) C I (4 : Int32) p5 hp5) (by omega) rfl (rest := []) rfl (Nat.le_of_ble_eq_true rfl) ⟨Nat.le_of_ble_eq_true rfl, Nat.le_of_ble_eq_true rfl⟩ ?_
      show _ → kW G X m_Model_feed C p5.2 0 0 36 [.ref 88, .long w1, .null, .int x3, .null] [.int p5.1]
      intro h; have h := Option.some.inj h; subst h
      exact kx_iret hX hE ok_Model_feed (nx := 37) rfl rfl ⟨Nat.le_of_ble_eq_true rfl, Nat.le_of_ble_eq_true rfl⟩
def L_Model_text_68 (x1 : Int32) (x2 : Int32) : Nat → Int32 → HI → Option (HI)
  | 0, _, _ => none
  | f + 1, x4, I => if x2 ≤ x4 then (some I) else (grd (bnd ((219 : Int32) + x4) 270) (grd (bnd (((119 : Int32) + ((50 : Int32) * x1)) + x4) 270) (lt (xu I 89 (((119 : Int32) + ((50 : Int32) * x1)) + x4).toNatClampNeg (I 89 ((219 : Int32) + x4).toNatClampNeg)) fun J4 => L_Model_text_68 x1 x2 f (x4 + (1 : Int32)) J4)))
theorem s_L_Model_text_68 {G : xG} {X : xC} {d : Nat} (hd : 49 ≤ d) (hX : xAmb G X m_Model_text d 0 0)  (C : HC) (x1 : Int32) (x2 : Int32) : ∀ (f : Nat) (x4 : Int32) (I : HI) (r : HI), (kW G X m_Model_text C r 0 0 106 [.null, .null, .null, .null, .null] []) → L_Model_text_68 x1 x2 f x4 I = some r → kW G X m_Model_text C I 0 0 68 [.ref 88, .int x1, .int x2, .null, .int x4] [] := by
  intro f
  induction f with
  | zero => intro x4 I r hk h; rw [L_Model_text_68] at h; cases h
  | succ f ih =>
    intro x4 I r hk
    rw [L_Model_text_68]
    refine kx_go 3 (pc' := if x2 ≤ x4 then 106 else 74) (lv' := [.ref 88, .int x1, .int x2, .null, .int x4]) (st' := []) hX ok_Model_text rfl ?_
    refine kx_ite (fun c1 => ?_) (fun c1 => ?_)
    · refine kx_weak (lv' := [.null, .null, .null, .null, .null]) (by simp [xsub]) ?_
      intro h; have h := Option.some.inj h; subst h
      exact hk
    · refine kx_go 1 (pc' := 75) (lv' := [.ref 88, .int x1, .int x2, .null, .int x4]) (st' := [.ref 88]) hX ok_Model_text rfl ?_
      refine kx_getp hX ok_Model_text rfl (q := 89) (nx := 78) rfl ?_
      refine kx_go 8 (pc' := 89) (lv' := [.ref 88, .int x1, .int x2, .null, .int x4]) (st' := [.ref 88, .int (((119 : Int32) + ((50 : Int32) * x1)) + x4), .ref 89]) hX ok_Model_text rfl ?_
      refine kx_getp hX ok_Model_text rfl (q := 89) (nx := 92) rfl ?_
      refine kx_go 3 (pc' := 98) (lv' := [.ref 88, .int x1, .int x2, .null, .int x4]) (st' := [.int ((219 : Int32) + x4), .ref 89, .int (((119 : Int32) + ((50 : Int32) * x1)) + x4), .ref 89]) hX ok_Model_text rfl ?_
      refine kx_iald hX ok_Model_text (w := 270) (nx := 99) rfl (fun b2 => ?_)
      refine kx_iast hX ok_Model_text (w := 270) (nx := 100) rfl (fun b3 => ?_)
      refine kx_lt (Q := fun J4 => kW G X m_Model_text C J4 0 0 100 [.ref 88, .int x1, .int x2, .null, .int x4] []) (fun J4 eJ4 => ?_)
      refine kx_go 2 (pc' := 68) (lv' := [.ref 88, .int x1, .int x2, .null, .int (x4 + (1 : Int32))]) (st' := []) hX ok_Model_text rfl ?_
      exact fun h => ih (x4 + (1 : Int32)) J4 r hk h
def M_Model_text (I : HI) (x1 : Int32) : Option (Int32 × HI) := if (M_Model_in (x1.toInt64) (Int64.ofNat 0) (Int64.ofNat 1)) = (0 : Int32) then (Option.bind (M_Model_finds I (1 : Int32)) fun p2 => some (p2.1, p2.2)) else (lt (xu I 89 3 (0 : Int32)) fun J3 => Option.bind (M_Model_worked J3 (219 : Int32) (I 89 3) x1) fun p4 => if (p4.2 88 7) < (0 : Int32) then (grd (bnd ((97 : Int32) + x1) 270) (lt (xu p4.2 89 ((97 : Int32) + x1).toNatClampNeg (I 89 3)) fun J7 => Option.bind (L_Model_text_68 x1 (I 89 3) 1000 (0 : Int32) J7) fun p8 => some ((1 : Int32), p8))) else (some (((-10 : Int32) - (p4.2 88 7)), p4.2)))
theorem s_Model_text {G : xG} {d : Nat} (hd : 49 ≤ d) (C : HC) (I : HI) (x1 : Int32)  (r : Int32 × HI) : M_Model_text I x1 = some r → kM G d m_Model_text [.ref 88, .int x1] C I 0 0 (some (.int r.1)) C r.2 := by
  unfold M_Model_text
  refine kM.of (by decide +kernel) (Nat.le_of_ble_eq_true rfl) (lv := [.ref 88, .int x1, .null, .null, .null]) rfl (fun X hX hE => ?_)
  refine kx_go 4 (pc' := 4) (lv' := [.ref 88, .int x1, .null, .null, .null]) (st' := [.long (Int64.ofNat 1), .long (Int64.ofNat 0), .long (x1.toInt64)]) hX ok_Model_text rfl ?_
  refine kx_S (as := [.long (x1.toInt64), .long (Int64.ofNat 0), .long (Int64.ofNat 1)]) hX ok_Model_text (nx := 7) rfl l_Model_66 (fun _ => s_Model_in (G := G) (d := 0) (Nat.le_refl _) C I (x1.toInt64) (Int64.ofNat 0) (Int64.ofNat 1) _ rfl) (by omega) rfl (rest := []) rfl (Nat.le_of_ble_eq_true rfl) ⟨Nat.le_of_ble_eq_true rfl, Nat.le_of_ble_eq_true rfl⟩ ?_
  show _ → kW G X m_Model_text C I 0 0 7 [.ref 88, .int x1, .null, .null, .null] [.int (M_Model_in (x1.toInt64) (Int64.ofNat 0) (Int64.ofNat 1))]
  refine kx_go 1 (pc' := if (M_Model_in (x1.toInt64) (Int64.ofNat 0) (Int64.ofNat 1)) = (0 : Int32) then 10 else 16) (lv' := [.ref 88, .int x1, .null, .null, .null]) (st' := []) hX ok_Model_text rfl ?_
  refine kx_ite (fun c1 => ?_) (fun c1 => ?_)
  · refine kx_go 2 (pc' := 12) (lv' := [.ref 88, .int x1, .null, .null, .null]) (st' := [.int (1 : Int32), .ref 88]) hX ok_Model_text rfl ?_
    refine kx_bind (fun p2 hp2 => ?_)
    refine kx_V (r := 88) (as := [.int (1 : Int32)]) (by decide) hX ok_Model_text (nx := 15) rfl l_Model_129 (by decide) rfl (fun _ => s_Model_finds (G := G) (d := 0) (Nat.le_refl _) C I (1 : Int32) p2 hp2) (by omega) rfl (rest := []) rfl (Nat.le_of_ble_eq_true rfl) ⟨Nat.le_of_ble_eq_true rfl, Nat.le_of_ble_eq_true rfl⟩ ?_
    show _ → kW G X m_Model_text C p2.2 0 0 15 [.ref 88, .int x1, .null, .null, .null] [.int p2.1]
    intro h; have h := Option.some.inj h; subst h
    exact kx_iret hX hE ok_Model_text (nx := 16) rfl rfl ⟨Nat.le_of_ble_eq_true rfl, Nat.le_of_ble_eq_true rfl⟩
  · refine kx_go 1 (pc' := 17) (lv' := [.ref 88, .int x1, .null, .null, .null]) (st' := [.ref 88]) hX ok_Model_text rfl ?_
    refine kx_getp hX ok_Model_text rfl (q := 89) (nx := 20) rfl ?_
    refine kx_go 1 (pc' := 21) (lv' := [.ref 88, .int x1, .null, .null, .null]) (st' := [.int (3 : Int32), .ref 89]) hX ok_Model_text rfl ?_
    refine kx_ialdc hX ok_Model_text (w := 270) (nx := 22) rfl rfl (k := 3) rfl ?_
    refine kx_go 2 (pc' := 24) (lv' := [.ref 88, .int x1, .int (I 89 3), .null, .null]) (st' := [.ref 88]) hX ok_Model_text rfl ?_
    refine kx_getp hX ok_Model_text rfl (q := 89) (nx := 27) rfl ?_
    refine kx_go 2 (pc' := 29) (lv' := [.ref 88, .int x1, .int (I 89 3), .null, .null]) (st' := [.int (0 : Int32), .int (3 : Int32), .ref 89]) hX ok_Model_text rfl ?_
    refine kx_iastc hX ok_Model_text (w := 270) (nx := 30) rfl rfl (k := 3) rfl ?_
    refine kx_lt (Q := fun J3 => kW G X m_Model_text C J3 0 0 30 [.ref 88, .int x1, .int (I 89 3), .null, .null] []) (fun J3 eJ3 => ?_)
    refine kx_go 4 (pc' := 36) (lv' := [.ref 88, .int x1, .int (I 89 3), .null, .null]) (st' := [.int x1, .int (I 89 3), .int (219 : Int32), .ref 88]) hX ok_Model_text rfl ?_
    refine kx_bind (fun p4 hp4 => ?_)
    refine kx_V (r := 88) (as := [.int (219 : Int32), .int (I 89 3), .int x1]) (by decide) hX ok_Model_text (nx := 39) rfl l_Model_134 (by decide) rfl (fun _ => s_Model_worked (G := G) (d := 48) (Nat.le_refl _) C J3 (219 : Int32) (I 89 3) x1 p4 hp4) (by omega) rfl (rest := []) rfl (Nat.le_of_ble_eq_true rfl) ⟨Nat.le_of_ble_eq_true rfl, Nat.le_of_ble_eq_true rfl⟩ ?_
    show _ → kW G X m_Model_text C p4.2 0 0 39 [.ref 88, .int x1, .int (I 89 3), .null, .null] [.int p4.1]
    refine kx_go 2 (pc' := 41) (lv' := [.ref 88, .int x1, .int (I 89 3), .int p4.1, .null]) (st' := [.ref 88]) hX ok_Model_text rfl ?_
    refine kx_geti hX ok_Model_text rfl (k := 7) (nx := 44) rfl ?_
    refine kx_go 1 (pc' := if (p4.2 88 7) < (0 : Int32) then 55 else 47) (lv' := [.ref 88, .int x1, .int (I 89 3), .int p4.1, .null]) (st' := []) hX ok_Model_text rfl ?_
    refine kx_ite (fun c5 => ?_) (fun c5 => ?_)
    · refine kx_go 1 (pc' := 56) (lv' := [.ref 88, .int x1, .int (I 89 3), .int p4.1, .null]) (st' := [.ref 88]) hX ok_Model_text rfl ?_
      refine kx_getp hX ok_Model_text rfl (q := 89) (nx := 59) rfl ?_
      refine kx_go 4 (pc' := 64) (lv' := [.ref 88, .int x1, .int (I 89 3), .int p4.1, .null]) (st' := [.int (I 89 3), .int ((97 : Int32) + x1), .ref 89]) hX ok_Model_text rfl ?_
      refine kx_iast hX ok_Model_text (w := 270) (nx := 65) rfl (fun b6 => ?_)
      refine kx_lt (Q := fun J7 => kW G X m_Model_text C J7 0 0 65 [.ref 88, .int x1, .int (I 89 3), .int p4.1, .null] []) (fun J7 eJ7 => ?_)
      refine kx_go 2 (pc' := 68) (lv' := [.ref 88, .int x1, .int (I 89 3), .int p4.1, .int (0 : Int32)]) (st' := []) hX ok_Model_text rfl ?_
      refine kx_weak (lv' := [.ref 88, .int x1, .int (I 89 3), .null, .int (0 : Int32)]) (by simp [xsub]) ?_
      refine kx_bind (fun p8 hp8 => ?_)
      refine kx_via (fun hk => s_L_Model_text_68 (G := G) (X := X) (by omega) hX C x1 (I 89 3) 1000 (0 : Int32) J7 p8 hk hp8) ?_
      refine kx_go 1 (pc' := 107) (lv' := [.null, .null, .null, .null, .null]) (st' := [.int (1 : Int32)]) hX ok_Model_text rfl ?_
      intro h; have h := Option.some.inj h; subst h
      exact kx_iret hX hE ok_Model_text (nx := 108) rfl rfl ⟨Nat.le_of_ble_eq_true rfl, Nat.le_of_ble_eq_true rfl⟩
    · refine kx_go 2 (pc' := 50) (lv' := [.ref 88, .int x1, .int (I 89 3), .int p4.1, .null]) (st' := [.ref 88, .int (-10 : Int32)]) hX ok_Model_text rfl ?_
      refine kx_geti hX ok_Model_text rfl (k := 7) (nx := 53) rfl ?_
      refine kx_go 1 (pc' := 54) (lv' := [.ref 88, .int x1, .int (I 89 3), .int p4.1, .null]) (st' := [.int ((-10 : Int32) - (p4.2 88 7))]) hX ok_Model_text rfl ?_
      intro h; have h := Option.some.inj h; subst h
      exact kx_iret hX hE ok_Model_text (nx := 55) rfl rfl ⟨Nat.le_of_ble_eq_true rfl, Nat.le_of_ble_eq_true rfl⟩
def M_Model_law (I : HI) (x1 : Int32) (x2 : Int32) (x3 : Int32) (x4 : Int32) (x5 : Int32) : Option (Int32 × HI) := if (M_Model_in (x1.toInt64) (Int64.ofNat 0) (Int64.ofNat 1)) = (0 : Int32) then (Option.bind (M_Model_finds I (1 : Int32)) fun p2 => some (p2.1, p2.2)) else (Option.bind (M_Model_gives I x1 x2 x3 x4 x5) fun p3 => some (p3.1, p3.2))
theorem s_Model_law {G : xG} {d : Nat} (hd : 50 ≤ d) (C : HC) (I : HI) (x1 : Int32) (x2 : Int32) (x3 : Int32) (x4 : Int32) (x5 : Int32)  (r : Int32 × HI) : M_Model_law I x1 x2 x3 x4 x5 = some r → kM G d m_Model_law [.ref 88, .int x1, .int x2, .int x3, .int x4, .int x5] C I 0 0 (some (.int r.1)) C r.2 := by
  unfold M_Model_law
  refine kM.of (by decide +kernel) (Nat.le_of_ble_eq_true rfl) (lv := [.ref 88, .int x1, .int x2, .int x3, .int x4, .int x5]) rfl (fun X hX hE => ?_)
  refine kx_go 4 (pc' := 4) (lv' := [.ref 88, .int x1, .int x2, .int x3, .int x4, .int x5]) (st' := [.long (Int64.ofNat 1), .long (Int64.ofNat 0), .long (x1.toInt64)]) hX ok_Model_law rfl ?_
  refine kx_S (as := [.long (x1.toInt64), .long (Int64.ofNat 0), .long (Int64.ofNat 1)]) hX ok_Model_law (nx := 7) rfl l_Model_66 (fun _ => s_Model_in (G := G) (d := 0) (Nat.le_refl _) C I (x1.toInt64) (Int64.ofNat 0) (Int64.ofNat 1) _ rfl) (by omega) rfl (rest := []) rfl (Nat.le_of_ble_eq_true rfl) ⟨Nat.le_of_ble_eq_true rfl, Nat.le_of_ble_eq_true rfl⟩ ?_
  show _ → kW G X m_Model_law C I 0 0 7 [.ref 88, .int x1, .int x2, .int x3, .int x4, .int x5] [.int (M_Model_in (x1.toInt64) (Int64.ofNat 0) (Int64.ofNat 1))]
  refine kx_go 1 (pc' := if (M_Model_in (x1.toInt64) (Int64.ofNat 0) (Int64.ofNat 1)) = (0 : Int32) then 24 else 10) (lv' := [.ref 88, .int x1, .int x2, .int x3, .int x4, .int x5]) (st' := []) hX ok_Model_law rfl ?_
  refine kx_ite (fun c1 => ?_) (fun c1 => ?_)
  · refine kx_go 2 (pc' := 26) (lv' := [.ref 88, .int x1, .int x2, .int x3, .int x4, .int x5]) (st' := [.int (1 : Int32), .ref 88]) hX ok_Model_law rfl ?_
    refine kx_bind (fun p2 hp2 => ?_)
    refine kx_V (r := 88) (as := [.int (1 : Int32)]) (by decide) hX ok_Model_law (nx := 29) rfl l_Model_129 (by decide) rfl (fun _ => s_Model_finds (G := G) (d := 0) (Nat.le_refl _) C I (1 : Int32) p2 hp2) (by omega) rfl (rest := []) rfl (Nat.le_of_ble_eq_true rfl) ⟨Nat.le_of_ble_eq_true rfl, Nat.le_of_ble_eq_true rfl⟩ ?_
    show _ → kW G X m_Model_law C p2.2 0 0 29 [.ref 88, .int x1, .int x2, .int x3, .int x4, .int x5] [.int p2.1]
    intro h; have h := Option.some.inj h; subst h
    exact kx_iret hX hE ok_Model_law (nx := 30) rfl rfl ⟨Nat.le_of_ble_eq_true rfl, Nat.le_of_ble_eq_true rfl⟩
  · refine kx_go 6 (pc' := 18) (lv' := [.ref 88, .int x1, .int x2, .int x3, .int x4, .int x5]) (st' := [.int x5, .int x4, .int x3, .int x2, .int x1, .ref 88]) hX ok_Model_law rfl ?_
    refine kx_bind (fun p3 hp3 => ?_)
    refine kx_V (r := 88) (as := [.int x1, .int x2, .int x3, .int x4, .int x5]) (by decide) hX ok_Model_law (nx := 21) rfl l_Model_141 (by decide) rfl (fun _ => s_Model_gives (G := G) (d := 49) (Nat.le_refl _) C I x1 x2 x3 x4 x5 p3 hp3) (by omega) rfl (rest := []) rfl (Nat.le_of_ble_eq_true rfl) ⟨Nat.le_of_ble_eq_true rfl, Nat.le_of_ble_eq_true rfl⟩ ?_
    show _ → kW G X m_Model_law C p3.2 0 0 21 [.ref 88, .int x1, .int x2, .int x3, .int x4, .int x5] [.int p3.1]
    refine kx_go 1 (pc' := 29) (lv' := [.ref 88, .int x1, .int x2, .int x3, .int x4, .int x5]) (st' := [.int p3.1]) hX ok_Model_law rfl ?_
    intro h; have h := Option.some.inj h; subst h
    exact kx_iret hX hE ok_Model_law (nx := 30) rfl rfl ⟨Nat.le_of_ble_eq_true rfl, Nat.le_of_ble_eq_true rfl⟩
