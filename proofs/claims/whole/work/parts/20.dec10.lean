def M_Wall_makeOfKind (C : HC) (I : HI) (x1 : Int32) (x2 : Int32) : Option (HC × HI) := grd (bnd x1 8 && gS C (hT C x1.toNatClampNeg)) (if (M_Vkind C (hT C x1.toNatClampNeg)) = x2 then (some (C, I)) else (Option.bind (M_Wall_blankOfKind C I x2) fun p3 => grd (gS p3.2.1 p3.1) (grd (bnd x1 8 && gS p3.2.1 (hT p3.2.1 x1.toNatClampNeg)) (lt (M_VcopyFrom p3.2.1 p3.2.2 p3.1 (hT p3.2.1 x1.toNatClampNeg)) fun p6 => grd (bnd x1 8) (some ((cT p3.2.1 x1.toNatClampNeg p3.1), p6))))))
theorem s_Wall_makeOfKind {G : xG} {d : Nat} (hd : 5 ≤ d) (C : HC) (I : HI) (x1 : Int32) (x2 : Int32)  (r : HC × HI) : M_Wall_makeOfKind C I x1 x2 = some r → kM G d m_Wall_makeOfKind [.ref 1, .int x1, .int x2] C I 1 7 none r.1 r.2 := by
  unfold M_Wall_makeOfKind
  refine kM.of (by decide +kernel) (Nat.le_of_ble_eq_true rfl) (lv := [.ref 1, .int x1, .int x2, .null]) rfl (fun X hX hE => ?_)
  refine kx_go 1 (pc' := 1) (lv' := [.ref 1, .int x1, .int x2, .null]) (st' := [.ref 1]) hX ok_Wall_makeOfKind rfl ?_
  refine kx_getp hX ok_Wall_makeOfKind rfl (q := 2) (nx := 4) rfl ?_
  refine kx_go 1 (pc' := 5) (lv' := [.ref 1, .int x1, .int x2, .null]) (st' := [.int x1, .ref 2]) hX ok_Wall_makeOfKind rfl ?_
  refine kx_aaT hX ok_Wall_makeOfKind (nx := 6) rfl (fun bhq1 hq1 => ?_)
  refine kx_U (as := []) hq1 hX ok_Wall_makeOfKind (nx := 9) rfl (l_Wall_52 (gS_k hq1)) (fun _ => s_Vkind (G := G) (d := 0) (Nat.le_refl _) C I (hT C x1.toNatClampNeg) hq1 _ rfl) (by omega) rfl (rest := []) rfl (Nat.le_of_ble_eq_true rfl) ⟨Nat.le_of_ble_eq_true rfl, Nat.le_of_ble_eq_true rfl⟩ ?_
  show _ → kW G X m_Wall_makeOfKind C I 0 0 9 [.ref 1, .int x1, .int x2, .null] [.int (M_Vkind C (hT C x1.toNatClampNeg))]
  refine kx_go 2 (pc' := if (M_Vkind C (hT C x1.toNatClampNeg)) = x2 then 35 else 13) (lv' := [.ref 1, .int x1, .int x2, .null]) (st' := []) hX ok_Wall_makeOfKind rfl ?_
  refine kx_ite (fun c2 => ?_) (fun c2 => ?_)
  · intro h; have h := Option.some.inj h; subst h
    exact kx_vret hX hE ok_Wall_makeOfKind (nx := 36) rfl rfl ⟨Nat.le_of_ble_eq_true rfl, Nat.le_of_ble_eq_true rfl⟩
  · refine kx_go 1 (pc' := 14) (lv' := [.ref 1, .int x1, .int x2, .null]) (st' := [.int x2]) hX ok_Wall_makeOfKind rfl ?_
    refine kx_bind (fun p3 hp3 => ?_)
    refine kx_S (as := [.int x2]) hX ok_Wall_makeOfKind (nx := 17) rfl l_Wall_117 (fun _ => s_Wall_blankOfKind (G := G) (d := 4) (Nat.le_refl _) C I x2 p3 hp3) (by omega) rfl (rest := []) rfl (Nat.le_of_ble_eq_true rfl) ⟨Nat.le_of_ble_eq_true rfl, Nat.le_of_ble_eq_true rfl⟩ ?_
    show _ → kW G X m_Wall_makeOfKind p3.2.1 p3.2.2 (0 + 1) (0 + 7) 17 [.ref 1, .int x1, .int x2, .null] [.ref p3.1]
    refine kx_grd (fun hq4 => ?_)
    refine kx_go 3 (pc' := 20) (lv' := [.ref 1, .int x1, .int x2, .ref p3.1]) (st' := [.ref 1, .ref p3.1]) hX ok_Wall_makeOfKind rfl ?_
    refine kx_getp hX ok_Wall_makeOfKind rfl (q := 2) (nx := 23) rfl ?_
    refine kx_go 1 (pc' := 24) (lv' := [.ref 1, .int x1, .int x2, .ref p3.1]) (st' := [.int x1, .ref 2, .ref p3.1]) hX ok_Wall_makeOfKind rfl ?_
    refine kx_aaT hX ok_Wall_makeOfKind (nx := 25) rfl (fun bhq5 hq5 => ?_)
    refine kx_lti (fun p6 hp6 => ?_)
    refine kx_U (as := [.ref (hT p3.2.1 x1.toNatClampNeg)]) hq4 hX ok_Wall_makeOfKind (nx := 28) rfl (l_Wall_60 (gS_k hq4)) (fun _ => s_VcopyFrom (G := G) (d := 0) (Nat.le_refl _) p3.2.1 p3.2.2 p3.1 (hT p3.2.1 x1.toNatClampNeg) hq4 hq5 p6 hp6) (by omega) rfl (rest := []) rfl (Nat.le_of_ble_eq_true rfl) ⟨Nat.le_of_ble_eq_true rfl, Nat.le_of_ble_eq_true rfl⟩ ?_
    show _ → kW G X m_Wall_makeOfKind p3.2.1 p6 (0 + 1) (0 + 7) 28 [.ref 1, .int x1, .int x2, .ref p3.1] []
    refine kx_go 1 (pc' := 29) (lv' := [.ref 1, .int x1, .int x2, .ref p3.1]) (st' := [.ref 1]) hX ok_Wall_makeOfKind rfl ?_
    refine kx_getp hX ok_Wall_makeOfKind rfl (q := 2) (nx := 32) rfl ?_
    refine kx_go 2 (pc' := 34) (lv' := [.ref 1, .int x1, .int x2, .ref p3.1]) (st' := [.ref p3.1, .int x1, .ref 2]) hX ok_Wall_makeOfKind rfl ?_
    refine kx_asT hq4 hX ok_Wall_makeOfKind (nx := 35) rfl ?_
    intro h; have h := Option.some.inj h; subst h
    exact kx_vret hX hE ok_Wall_makeOfKind (nx := 36) rfl rfl ⟨Nat.le_of_ble_eq_true rfl, Nat.le_of_ble_eq_true rfl⟩
def M_H_become (C : HC) (I : HI) (x1 : Int32) (x2 : Int32) : Option (Int32 × HC × HI) := if (M_Wall_hasStroke I x1) = (0 : Int32) then (Option.bind (M_H_error I (1 : Int32)) fun p2 => some (p2.1, C, p2.2)) else (if (M_Wall_within x2 (69 : Int32)) = (0 : Int32) then (Option.bind (M_H_error I (1 : Int32)) fun p4 => some (p4.1, C, p4.2)) else (grd (bnd x1 8 && gS C (hT C x1.toNatClampNeg)) (Option.bind (M_Wall_makeOfKind C I x1 (x2 / (10 : Int32))) fun p6 => grd (bnd x1 8 && gS p6.1 (hT p6.1 x1.toNatClampNeg)) (lt (xu p6.2 (hT p6.1 x1.toNatClampNeg) 1 (x2 - x2 / (10 : Int32) * (10 : Int32))) fun J8 => some ((M_Vkind C (hT C x1.toNatClampNeg)), p6.1, J8)))))
theorem s_H_become {G : xG} {d : Nat} (hd : 6 ≤ d) (C : HC) (I : HI) (x1 : Int32) (x2 : Int32)  (r : Int32 × HC × HI) : M_H_become C I x1 x2 = some r → kM G d m_H_become [.ref 0, .int x1, .int x2] C I 1 7 (some (.int r.1)) r.2.1 r.2.2 := by
  unfold M_H_become
  refine kM.of (by decide +kernel) (Nat.le_of_ble_eq_true rfl) (lv := [.ref 0, .int x1, .int x2, .null]) rfl (fun X hX hE => ?_)
  refine kx_go 1 (pc' := 1) (lv' := [.ref 0, .int x1, .int x2, .null]) (st' := [.ref 0]) hX ok_H_become rfl ?_
  refine kx_getp hX ok_H_become rfl (q := 1) (nx := 4) rfl ?_
  refine kx_go 1 (pc' := 5) (lv' := [.ref 0, .int x1, .int x2, .null]) (st' := [.int x1, .ref 1]) hX ok_H_become rfl ?_
  refine kx_V (r := 1) (as := [.int x1]) (by decide) hX ok_H_become (nx := 8) rfl l_H_71 (by decide) rfl (fun _ => s_Wall_hasStroke (G := G) (d := 0) (Nat.le_refl _) C I x1 _ rfl) (by omega) rfl (rest := []) rfl (Nat.le_of_ble_eq_true rfl) ⟨Nat.le_of_ble_eq_true rfl, Nat.le_of_ble_eq_true rfl⟩ ?_
  show _ → kW G X m_H_become C I 0 0 8 [.ref 0, .int x1, .int x2, .null] [.int (M_Wall_hasStroke I x1)]
  refine kx_go 1 (pc' := if (M_Wall_hasStroke I x1) = (0 : Int32) then 20 else 11) (lv' := [.ref 0, .int x1, .int x2, .null]) (st' := []) hX ok_H_become rfl ?_
  refine kx_ite (fun c1 => ?_) (fun c1 => ?_)
  · refine kx_go 2 (pc' := 22) (lv' := [.ref 0, .int x1, .int x2, .null]) (st' := [.int (1 : Int32), .ref 0]) hX ok_H_become rfl ?_
    refine kx_bind (fun p2 hp2 => ?_)
    refine kx_V (r := 0) (as := [.int (1 : Int32)]) (by decide) hX ok_H_become (nx := 25) rfl l_H_60 (by decide) rfl (fun _ => s_H_error (G := G) (d := 0) (Nat.le_refl _) C I (1 : Int32) p2 hp2) (by omega) rfl (rest := []) rfl (Nat.le_of_ble_eq_true rfl) ⟨Nat.le_of_ble_eq_true rfl, Nat.le_of_ble_eq_true rfl⟩ ?_
    show _ → kW G X m_H_become C p2.2 0 0 25 [.ref 0, .int x1, .int x2, .null] [.int p2.1]
    intro h; have h := Option.some.inj h; subst h
    exact kx_iret hX hE ok_H_become (nx := 26) rfl rfl ⟨Nat.le_of_ble_eq_true rfl, Nat.le_of_ble_eq_true rfl⟩
  · refine kx_go 2 (pc' := 14) (lv' := [.ref 0, .int x1, .int x2, .null]) (st' := [.int (69 : Int32), .int x2]) hX ok_H_become rfl ?_
    refine kx_S (as := [.int x2, .int (69 : Int32)]) hX ok_H_become (nx := 17) rfl l_H_56 (fun _ => s_Wall_within (G := G) (d := 0) (Nat.le_refl _) C I x2 (69 : Int32) _ rfl) (by omega) rfl (rest := []) rfl (Nat.le_of_ble_eq_true rfl) ⟨Nat.le_of_ble_eq_true rfl, Nat.le_of_ble_eq_true rfl⟩ ?_
    show _ → kW G X m_H_become C I 0 0 17 [.ref 0, .int x1, .int x2, .null] [.int (M_Wall_within x2 (69 : Int32))]
    refine kx_go 1 (pc' := if (M_Wall_within x2 (69 : Int32)) = (0 : Int32) then 20 else 26) (lv' := [.ref 0, .int x1, .int x2, .null]) (st' := []) hX ok_H_become rfl ?_
    refine kx_ite (fun c3 => ?_) (fun c3 => ?_)
    · refine kx_go 2 (pc' := 22) (lv' := [.ref 0, .int x1, .int x2, .null]) (st' := [.int (1 : Int32), .ref 0]) hX ok_H_become rfl ?_
      refine kx_bind (fun p4 hp4 => ?_)
      refine kx_V (r := 0) (as := [.int (1 : Int32)]) (by decide) hX ok_H_become (nx := 25) rfl l_H_60 (by decide) rfl (fun _ => s_H_error (G := G) (d := 0) (Nat.le_refl _) C I (1 : Int32) p4 hp4) (by omega) rfl (rest := []) rfl (Nat.le_of_ble_eq_true rfl) ⟨Nat.le_of_ble_eq_true rfl, Nat.le_of_ble_eq_true rfl⟩ ?_
      show _ → kW G X m_H_become C p4.2 0 0 25 [.ref 0, .int x1, .int x2, .null] [.int p4.1]
      intro h; have h := Option.some.inj h; subst h
      exact kx_iret hX hE ok_H_become (nx := 26) rfl rfl ⟨Nat.le_of_ble_eq_true rfl, Nat.le_of_ble_eq_true rfl⟩
    · refine kx_go 1 (pc' := 27) (lv' := [.ref 0, .int x1, .int x2, .null]) (st' := [.ref 0]) hX ok_H_become rfl ?_
      refine kx_getp hX ok_H_become rfl (q := 1) (nx := 30) rfl ?_
      refine kx_getp hX ok_H_become rfl (q := 2) (nx := 33) rfl ?_
      refine kx_go 1 (pc' := 34) (lv' := [.ref 0, .int x1, .int x2, .null]) (st' := [.int x1, .ref 2]) hX ok_H_become rfl ?_
      refine kx_aaT hX ok_H_become (nx := 35) rfl (fun bhq5 hq5 => ?_)
      refine kx_U (as := []) hq5 hX ok_H_become (nx := 38) rfl (l_H_79 (gS_k hq5)) (fun _ => s_Vkind (G := G) (d := 0) (Nat.le_refl _) C I (hT C x1.toNatClampNeg) hq5 _ rfl) (by omega) rfl (rest := []) rfl (Nat.le_of_ble_eq_true rfl) ⟨Nat.le_of_ble_eq_true rfl, Nat.le_of_ble_eq_true rfl⟩ ?_
      show _ → kW G X m_H_become C I 0 0 38 [.ref 0, .int x1, .int x2, .null] [.int (M_Vkind C (hT C x1.toNatClampNeg))]
      refine kx_go 2 (pc' := 40) (lv' := [.ref 0, .int x1, .int x2, .int (M_Vkind C (hT C x1.toNatClampNeg))]) (st' := [.ref 0]) hX ok_H_become rfl ?_
      refine kx_getp hX ok_H_become rfl (q := 1) (nx := 43) rfl ?_
      refine kx_go 3 (pc' := 47) (lv' := [.ref 0, .int x1, .int x2, .int (M_Vkind C (hT C x1.toNatClampNeg))]) (st' := [.int (10 : Int32), .int x2, .int x1, .ref 1]) hX ok_H_become rfl ?_
      refine kx_idivc hX ok_H_become (nx := 48) rfl (by decide) ?_
      refine kx_bind (fun p6 hp6 => ?_)
      refine kx_V (r := 1) (as := [.int x1, .int (x2 / (10 : Int32))]) (by decide) hX ok_H_become (nx := 51) rfl l_H_104 (by decide) rfl (fun _ => s_Wall_makeOfKind (G := G) (d := 5) (Nat.le_refl _) C I x1 (x2 / (10 : Int32)) p6 hp6) (by omega) rfl (rest := []) rfl (Nat.le_of_ble_eq_true rfl) ⟨Nat.le_of_ble_eq_true rfl, Nat.le_of_ble_eq_true rfl⟩ ?_
      show _ → kW G X m_H_become p6.1 p6.2 (0 + 1) (0 + 7) 51 [.ref 0, .int x1, .int x2, .int (M_Vkind C (hT C x1.toNatClampNeg))] []
      refine kx_go 1 (pc' := 52) (lv' := [.ref 0, .int x1, .int x2, .int (M_Vkind C (hT C x1.toNatClampNeg))]) (st' := [.ref 0]) hX ok_H_become rfl ?_
      refine kx_getp hX ok_H_become rfl (q := 1) (nx := 55) rfl ?_
      refine kx_getp hX ok_H_become rfl (q := 2) (nx := 58) rfl ?_
      refine kx_go 1 (pc' := 59) (lv' := [.ref 0, .int x1, .int x2, .int (M_Vkind C (hT C x1.toNatClampNeg))]) (st' := [.int x1, .ref 2]) hX ok_H_become rfl ?_
      refine kx_aaT hX ok_H_become (nx := 60) rfl (fun bhq7 hq7 => ?_)
      refine kx_go 2 (pc' := 63) (lv' := [.ref 0, .int x1, .int x2, .int (M_Vkind C (hT C x1.toNatClampNeg))]) (st' := [.int (10 : Int32), .int x2, .ref (hT p6.1 x1.toNatClampNeg)]) hX ok_H_become rfl ?_
      refine kx_iremc hX ok_H_become (nx := 64) rfl (by decide) ?_
      refine kx_puts hq7 hX ok_H_become rfl (k := 1) (nx := 67) rfl ?_
      refine kx_lt (Q := fun J8 => kW G X m_H_become p6.1 J8 (0 + 1) (0 + 7) 67 [.ref 0, .int x1, .int x2, .int (M_Vkind C (hT C x1.toNatClampNeg))] []) (fun J8 eJ8 => ?_)
      refine kx_go 1 (pc' := 68) (lv' := [.ref 0, .int x1, .int x2, .int (M_Vkind C (hT C x1.toNatClampNeg))]) (st' := [.int (M_Vkind C (hT C x1.toNatClampNeg))]) hX ok_H_become rfl ?_
      intro h; have h := Option.some.inj h; subst h
      exact kx_iret hX hE ok_H_become (nx := 69) rfl rfl ⟨Nat.le_of_ble_eq_true rfl, Nat.le_of_ble_eq_true rfl⟩
def M_Stroke_isOf (q0 : Nat) (x1 : Int32) : Int32 := if x1 = (0 : Int32) then ((1 : Int32)) else ((0 : Int32))
theorem s_Stroke_isOf {G : xG} {d : Nat} (hd : 0 ≤ d) (C : HC) (I : HI) (q0 : Nat) (x1 : Int32) (hq0 : gS C q0 = true) (r : Int32) : M_Stroke_isOf q0 x1 = r → kM G d m_Stroke_isOf [.ref q0, .int x1] C I 0 0 (some (.int r)) C I := by
  unfold M_Stroke_isOf
  refine kM.of (by decide +kernel) (Nat.le_of_ble_eq_true rfl) (lv := [.ref q0, .int x1]) rfl (fun X hX hE => ?_)
  refine kx_go 2 (pc' := if x1 = (0 : Int32) then 4 else 8) (lv' := [.ref q0, .int x1]) (st' := []) hX ok_Stroke_isOf rfl ?_
  refine kx_ite (fun c1 => ?_) (fun c1 => ?_)
  · refine kx_go 2 (pc' := 9) (lv' := [.ref q0, .int x1]) (st' := [.int (1 : Int32)]) hX ok_Stroke_isOf rfl ?_
    rintro rfl
    exact kx_zret hX hE ok_Stroke_isOf (nx := 10) rfl rfl (Or.inr rfl) ⟨Nat.le_of_ble_eq_true rfl, Nat.le_of_ble_eq_true rfl⟩
  · refine kx_go 1 (pc' := 9) (lv' := [.ref q0, .int x1]) (st' := [.int (0 : Int32)]) hX ok_Stroke_isOf rfl ?_
    rintro rfl
    exact kx_zret hX hE ok_Stroke_isOf (nx := 10) rfl rfl (Or.inl rfl) ⟨Nat.le_of_ble_eq_true rfl, Nat.le_of_ble_eq_true rfl⟩
def M_Red_isOf (q0 : Nat) (x1 : Int32) : Int32 := if x1 = (1 : Int32) then ((1 : Int32)) else (if (M_Stroke_isOf q0 x1) = (0 : Int32) then ((0 : Int32)) else ((1 : Int32)))
theorem s_Red_isOf {G : xG} {d : Nat} (hd : 1 ≤ d) (C : HC) (I : HI) (q0 : Nat) (x1 : Int32) (hq0 : gS C q0 = true) (r : Int32) : M_Red_isOf q0 x1 = r → kM G d m_Red_isOf [.ref q0, .int x1] C I 0 0 (some (.int r)) C I := by
  unfold M_Red_isOf
  refine kM.of (by decide +kernel) (Nat.le_of_ble_eq_true rfl) (lv := [.ref q0, .int x1]) rfl (fun X hX hE => ?_)
  refine kx_go 3 (pc' := if x1 = (1 : Int32) then 13 else 5) (lv' := [.ref q0, .int x1]) (st' := []) hX ok_Red_isOf rfl ?_
  refine kx_ite (fun c1 => ?_) (fun c1 => ?_)
  · refine kx_go 2 (pc' := 18) (lv' := [.ref q0, .int x1]) (st' := [.int (1 : Int32)]) hX ok_Red_isOf rfl ?_
    rintro rfl
    exact kx_zret hX hE ok_Red_isOf (nx := 19) rfl rfl (Or.inr rfl) ⟨Nat.le_of_ble_eq_true rfl, Nat.le_of_ble_eq_true rfl⟩
  · refine kx_go 2 (pc' := 7) (lv' := [.ref q0, .int x1]) (st' := [.int x1, .ref q0]) hX ok_Red_isOf rfl ?_
    refine kx_SU (as := [.int x1]) hq0 hX ok_Red_isOf (nx := 10) rfl l_Red_7 (fun _ => s_Stroke_isOf (G := G) (d := 0) (Nat.le_refl _) C I q0 x1 hq0 _ rfl) (by omega) rfl (rest := []) rfl (Nat.le_of_ble_eq_true rfl) ⟨Nat.le_of_ble_eq_true rfl, Nat.le_of_ble_eq_true rfl⟩ ?_
    show _ → kW G X m_Red_isOf C I 0 0 10 [.ref q0, .int x1] [.int (M_Stroke_isOf q0 x1)]
    refine kx_go 1 (pc' := if (M_Stroke_isOf q0 x1) = (0 : Int32) then 17 else 13) (lv' := [.ref q0, .int x1]) (st' := []) hX ok_Red_isOf rfl ?_
    refine kx_ite (fun c2 => ?_) (fun c2 => ?_)
    · refine kx_go 1 (pc' := 18) (lv' := [.ref q0, .int x1]) (st' := [.int (0 : Int32)]) hX ok_Red_isOf rfl ?_
      rintro rfl
      exact kx_zret hX hE ok_Red_isOf (nx := 19) rfl rfl (Or.inl rfl) ⟨Nat.le_of_ble_eq_true rfl, Nat.le_of_ble_eq_true rfl⟩
    · refine kx_go 2 (pc' := 18) (lv' := [.ref q0, .int x1]) (st' := [.int (1 : Int32)]) hX ok_Red_isOf rfl ?_
      rintro rfl
      exact kx_zret hX hE ok_Red_isOf (nx := 19) rfl rfl (Or.inr rfl) ⟨Nat.le_of_ble_eq_true rfl, Nat.le_of_ble_eq_true rfl⟩
def M_Black_isOf (q0 : Nat) (x1 : Int32) : Int32 := if x1 = (2 : Int32) then ((1 : Int32)) else (if (M_Stroke_isOf q0 x1) = (0 : Int32) then ((0 : Int32)) else ((1 : Int32)))
theorem s_Black_isOf {G : xG} {d : Nat} (hd : 1 ≤ d) (C : HC) (I : HI) (q0 : Nat) (x1 : Int32) (hq0 : gS C q0 = true) (r : Int32) : M_Black_isOf q0 x1 = r → kM G d m_Black_isOf [.ref q0, .int x1] C I 0 0 (some (.int r)) C I := by
  unfold M_Black_isOf
  refine kM.of (by decide +kernel) (Nat.le_of_ble_eq_true rfl) (lv := [.ref q0, .int x1]) rfl (fun X hX hE => ?_)
  refine kx_go 3 (pc' := if x1 = (2 : Int32) then 13 else 5) (lv' := [.ref q0, .int x1]) (st' := []) hX ok_Black_isOf rfl ?_
  refine kx_ite (fun c1 => ?_) (fun c1 => ?_)
  · refine kx_go 2 (pc' := 18) (lv' := [.ref q0, .int x1]) (st' := [.int (1 : Int32)]) hX ok_Black_isOf rfl ?_
    rintro rfl
    exact kx_zret hX hE ok_Black_isOf (nx := 19) rfl rfl (Or.inr rfl) ⟨Nat.le_of_ble_eq_true rfl, Nat.le_of_ble_eq_true rfl⟩
  · refine kx_go 2 (pc' := 7) (lv' := [.ref q0, .int x1]) (st' := [.int x1, .ref q0]) hX ok_Black_isOf rfl ?_
    refine kx_SU (as := [.int x1]) hq0 hX ok_Black_isOf (nx := 10) rfl l_Black_7 (fun _ => s_Stroke_isOf (G := G) (d := 0) (Nat.le_refl _) C I q0 x1 hq0 _ rfl) (by omega) rfl (rest := []) rfl (Nat.le_of_ble_eq_true rfl) ⟨Nat.le_of_ble_eq_true rfl, Nat.le_of_ble_eq_true rfl⟩ ?_
    show _ → kW G X m_Black_isOf C I 0 0 10 [.ref q0, .int x1] [.int (M_Stroke_isOf q0 x1)]
    refine kx_go 1 (pc' := if (M_Stroke_isOf q0 x1) = (0 : Int32) then 17 else 13) (lv' := [.ref q0, .int x1]) (st' := []) hX ok_Black_isOf rfl ?_
    refine kx_ite (fun c2 => ?_) (fun c2 => ?_)
    · refine kx_go 1 (pc' := 18) (lv' := [.ref q0, .int x1]) (st' := [.int (0 : Int32)]) hX ok_Black_isOf rfl ?_
      rintro rfl
      exact kx_zret hX hE ok_Black_isOf (nx := 19) rfl rfl (Or.inl rfl) ⟨Nat.le_of_ble_eq_true rfl, Nat.le_of_ble_eq_true rfl⟩
    · refine kx_go 2 (pc' := 18) (lv' := [.ref q0, .int x1]) (st' := [.int (1 : Int32)]) hX ok_Black_isOf rfl ?_
      rintro rfl
      exact kx_zret hX hE ok_Black_isOf (nx := 19) rfl rfl (Or.inr rfl) ⟨Nat.le_of_ble_eq_true rfl, Nat.le_of_ble_eq_true rfl⟩
def M_Scratch_isOf (q0 : Nat) (x1 : Int32) : Int32 := if x1 = (3 : Int32) then ((1 : Int32)) else (if (M_Stroke_isOf q0 x1) = (0 : Int32) then ((0 : Int32)) else ((1 : Int32)))
theorem s_Scratch_isOf {G : xG} {d : Nat} (hd : 1 ≤ d) (C : HC) (I : HI) (q0 : Nat) (x1 : Int32) (hq0 : gS C q0 = true) (r : Int32) : M_Scratch_isOf q0 x1 = r → kM G d m_Scratch_isOf [.ref q0, .int x1] C I 0 0 (some (.int r)) C I := by
  unfold M_Scratch_isOf
  refine kM.of (by decide +kernel) (Nat.le_of_ble_eq_true rfl) (lv := [.ref q0, .int x1]) rfl (fun X hX hE => ?_)
  refine kx_go 3 (pc' := if x1 = (3 : Int32) then 13 else 5) (lv' := [.ref q0, .int x1]) (st' := []) hX ok_Scratch_isOf rfl ?_
  refine kx_ite (fun c1 => ?_) (fun c1 => ?_)
  · refine kx_go 2 (pc' := 18) (lv' := [.ref q0, .int x1]) (st' := [.int (1 : Int32)]) hX ok_Scratch_isOf rfl ?_
    rintro rfl
    exact kx_zret hX hE ok_Scratch_isOf (nx := 19) rfl rfl (Or.inr rfl) ⟨Nat.le_of_ble_eq_true rfl, Nat.le_of_ble_eq_true rfl⟩
  · refine kx_go 2 (pc' := 7) (lv' := [.ref q0, .int x1]) (st' := [.int x1, .ref q0]) hX ok_Scratch_isOf rfl ?_
    refine kx_SU (as := [.int x1]) hq0 hX ok_Scratch_isOf (nx := 10) rfl l_Scratch_7 (fun _ => s_Stroke_isOf (G := G) (d := 0) (Nat.le_refl _) C I q0 x1 hq0 _ rfl) (by omega) rfl (rest := []) rfl (Nat.le_of_ble_eq_true rfl) ⟨Nat.le_of_ble_eq_true rfl, Nat.le_of_ble_eq_true rfl⟩ ?_
    show _ → kW G X m_Scratch_isOf C I 0 0 10 [.ref q0, .int x1] [.int (M_Stroke_isOf q0 x1)]
    refine kx_go 1 (pc' := if (M_Stroke_isOf q0 x1) = (0 : Int32) then 17 else 13) (lv' := [.ref q0, .int x1]) (st' := []) hX ok_Scratch_isOf rfl ?_
    refine kx_ite (fun c2 => ?_) (fun c2 => ?_)
    · refine kx_go 1 (pc' := 18) (lv' := [.ref q0, .int x1]) (st' := [.int (0 : Int32)]) hX ok_Scratch_isOf rfl ?_
      rintro rfl
      exact kx_zret hX hE ok_Scratch_isOf (nx := 19) rfl rfl (Or.inl rfl) ⟨Nat.le_of_ble_eq_true rfl, Nat.le_of_ble_eq_true rfl⟩
    · refine kx_go 2 (pc' := 18) (lv' := [.ref q0, .int x1]) (st' := [.int (1 : Int32)]) hX ok_Scratch_isOf rfl ?_
      rintro rfl
      exact kx_zret hX hE ok_Scratch_isOf (nx := 19) rfl rfl (Or.inr rfl) ⟨Nat.le_of_ble_eq_true rfl, Nat.le_of_ble_eq_true rfl⟩
def M_Child_isOf (q0 : Nat) (x1 : Int32) : Int32 := if x1 = (4 : Int32) then ((1 : Int32)) else (if (M_Red_isOf q0 x1) = (0 : Int32) then ((0 : Int32)) else ((1 : Int32)))
theorem s_Child_isOf {G : xG} {d : Nat} (hd : 2 ≤ d) (C : HC) (I : HI) (q0 : Nat) (x1 : Int32) (hq0 : gS C q0 = true) (r : Int32) : M_Child_isOf q0 x1 = r → kM G d m_Child_isOf [.ref q0, .int x1] C I 0 0 (some (.int r)) C I := by
  unfold M_Child_isOf
  refine kM.of (by decide +kernel) (Nat.le_of_ble_eq_true rfl) (lv := [.ref q0, .int x1]) rfl (fun X hX hE => ?_)
  refine kx_go 3 (pc' := if x1 = (4 : Int32) then 13 else 5) (lv' := [.ref q0, .int x1]) (st' := []) hX ok_Child_isOf rfl ?_
  refine kx_ite (fun c1 => ?_) (fun c1 => ?_)
  · refine kx_go 2 (pc' := 18) (lv' := [.ref q0, .int x1]) (st' := [.int (1 : Int32)]) hX ok_Child_isOf rfl ?_
    rintro rfl
    exact kx_zret hX hE ok_Child_isOf (nx := 19) rfl rfl (Or.inr rfl) ⟨Nat.le_of_ble_eq_true rfl, Nat.le_of_ble_eq_true rfl⟩
  · refine kx_go 2 (pc' := 7) (lv' := [.ref q0, .int x1]) (st' := [.int x1, .ref q0]) hX ok_Child_isOf rfl ?_
    refine kx_SU (as := [.int x1]) hq0 hX ok_Child_isOf (nx := 10) rfl l_Child_7 (fun _ => s_Red_isOf (G := G) (d := 1) (Nat.le_refl _) C I q0 x1 hq0 _ rfl) (by omega) rfl (rest := []) rfl (Nat.le_of_ble_eq_true rfl) ⟨Nat.le_of_ble_eq_true rfl, Nat.le_of_ble_eq_true rfl⟩ ?_
    show _ → kW G X m_Child_isOf C I 0 0 10 [.ref q0, .int x1] [.int (M_Red_isOf q0 x1)]
    refine kx_go 1 (pc' := if (M_Red_isOf q0 x1) = (0 : Int32) then 17 else 13) (lv' := [.ref q0, .int x1]) (st' := []) hX ok_Child_isOf rfl ?_
    refine kx_ite (fun c2 => ?_) (fun c2 => ?_)
    · refine kx_go 1 (pc' := 18) (lv' := [.ref q0, .int x1]) (st' := [.int (0 : Int32)]) hX ok_Child_isOf rfl ?_
      rintro rfl
      exact kx_zret hX hE ok_Child_isOf (nx := 19) rfl rfl (Or.inl rfl) ⟨Nat.le_of_ble_eq_true rfl, Nat.le_of_ble_eq_true rfl⟩
    · refine kx_go 2 (pc' := 18) (lv' := [.ref q0, .int x1]) (st' := [.int (1 : Int32)]) hX ok_Child_isOf rfl ?_
      rintro rfl
      exact kx_zret hX hE ok_Child_isOf (nx := 19) rfl rfl (Or.inr rfl) ⟨Nat.le_of_ble_eq_true rfl, Nat.le_of_ble_eq_true rfl⟩
def M_Soot_isOf (q0 : Nat) (x1 : Int32) : Int32 := if x1 = (5 : Int32) then ((1 : Int32)) else (if (M_Black_isOf q0 x1) = (0 : Int32) then ((0 : Int32)) else ((1 : Int32)))
theorem s_Soot_isOf {G : xG} {d : Nat} (hd : 2 ≤ d) (C : HC) (I : HI) (q0 : Nat) (x1 : Int32) (hq0 : gS C q0 = true) (r : Int32) : M_Soot_isOf q0 x1 = r → kM G d m_Soot_isOf [.ref q0, .int x1] C I 0 0 (some (.int r)) C I := by
  unfold M_Soot_isOf
  refine kM.of (by decide +kernel) (Nat.le_of_ble_eq_true rfl) (lv := [.ref q0, .int x1]) rfl (fun X hX hE => ?_)
  refine kx_go 3 (pc' := if x1 = (5 : Int32) then 13 else 5) (lv' := [.ref q0, .int x1]) (st' := []) hX ok_Soot_isOf rfl ?_
  refine kx_ite (fun c1 => ?_) (fun c1 => ?_)
  · refine kx_go 2 (pc' := 18) (lv' := [.ref q0, .int x1]) (st' := [.int (1 : Int32)]) hX ok_Soot_isOf rfl ?_
    rintro rfl
    exact kx_zret hX hE ok_Soot_isOf (nx := 19) rfl rfl (Or.inr rfl) ⟨Nat.le_of_ble_eq_true rfl, Nat.le_of_ble_eq_true rfl⟩
  · refine kx_go 2 (pc' := 7) (lv' := [.ref q0, .int x1]) (st' := [.int x1, .ref q0]) hX ok_Soot_isOf rfl ?_
    refine kx_SU (as := [.int x1]) hq0 hX ok_Soot_isOf (nx := 10) rfl l_Soot_7 (fun _ => s_Black_isOf (G := G) (d := 1) (Nat.le_refl _) C I q0 x1 hq0 _ rfl) (by omega) rfl (rest := []) rfl (Nat.le_of_ble_eq_true rfl) ⟨Nat.le_of_ble_eq_true rfl, Nat.le_of_ble_eq_true rfl⟩ ?_
    show _ → kW G X m_Soot_isOf C I 0 0 10 [.ref q0, .int x1] [.int (M_Black_isOf q0 x1)]
    refine kx_go 1 (pc' := if (M_Black_isOf q0 x1) = (0 : Int32) then 17 else 13) (lv' := [.ref q0, .int x1]) (st' := []) hX ok_Soot_isOf rfl ?_
    refine kx_ite (fun c2 => ?_) (fun c2 => ?_)
    · refine kx_go 1 (pc' := 18) (lv' := [.ref q0, .int x1]) (st' := [.int (0 : Int32)]) hX ok_Soot_isOf rfl ?_
      rintro rfl
      exact kx_zret hX hE ok_Soot_isOf (nx := 19) rfl rfl (Or.inl rfl) ⟨Nat.le_of_ble_eq_true rfl, Nat.le_of_ble_eq_true rfl⟩
    · refine kx_go 2 (pc' := 18) (lv' := [.ref q0, .int x1]) (st' := [.int (1 : Int32)]) hX ok_Soot_isOf rfl ?_
      rintro rfl
      exact kx_zret hX hE ok_Soot_isOf (nx := 19) rfl rfl (Or.inr rfl) ⟨Nat.le_of_ble_eq_true rfl, Nat.le_of_ble_eq_true rfl⟩
def M_Forged_isOf (q0 : Nat) (x1 : Int32) : Int32 := if x1 = (6 : Int32) then ((1 : Int32)) else (if (M_Scratch_isOf q0 x1) = (0 : Int32) then ((0 : Int32)) else ((1 : Int32)))
theorem s_Forged_isOf {G : xG} {d : Nat} (hd : 2 ≤ d) (C : HC) (I : HI) (q0 : Nat) (x1 : Int32) (hq0 : gS C q0 = true) (r : Int32) : M_Forged_isOf q0 x1 = r → kM G d m_Forged_isOf [.ref q0, .int x1] C I 0 0 (some (.int r)) C I := by
  unfold M_Forged_isOf
  refine kM.of (by decide +kernel) (Nat.le_of_ble_eq_true rfl) (lv := [.ref q0, .int x1]) rfl (fun X hX hE => ?_)
  refine kx_go 3 (pc' := if x1 = (6 : Int32) then 14 else 6) (lv' := [.ref q0, .int x1]) (st' := []) hX ok_Forged_isOf rfl ?_
  refine kx_ite (fun c1 => ?_) (fun c1 => ?_)
  · refine kx_go 2 (pc' := 19) (lv' := [.ref q0, .int x1]) (st' := [.int (1 : Int32)]) hX ok_Forged_isOf rfl ?_
    rintro rfl
    exact kx_zret hX hE ok_Forged_isOf (nx := 20) rfl rfl (Or.inr rfl) ⟨Nat.le_of_ble_eq_true rfl, Nat.le_of_ble_eq_true rfl⟩
  · refine kx_go 2 (pc' := 8) (lv' := [.ref q0, .int x1]) (st' := [.int x1, .ref q0]) hX ok_Forged_isOf rfl ?_
    refine kx_SU (as := [.int x1]) hq0 hX ok_Forged_isOf (nx := 11) rfl l_Forged_9 (fun _ => s_Scratch_isOf (G := G) (d := 1) (Nat.le_refl _) C I q0 x1 hq0 _ rfl) (by omega) rfl (rest := []) rfl (Nat.le_of_ble_eq_true rfl) ⟨Nat.le_of_ble_eq_true rfl, Nat.le_of_ble_eq_true rfl⟩ ?_
    show _ → kW G X m_Forged_isOf C I 0 0 11 [.ref q0, .int x1] [.int (M_Scratch_isOf q0 x1)]
    refine kx_go 1 (pc' := if (M_Scratch_isOf q0 x1) = (0 : Int32) then 18 else 14) (lv' := [.ref q0, .int x1]) (st' := []) hX ok_Forged_isOf rfl ?_
    refine kx_ite (fun c2 => ?_) (fun c2 => ?_)
    · refine kx_go 1 (pc' := 19) (lv' := [.ref q0, .int x1]) (st' := [.int (0 : Int32)]) hX ok_Forged_isOf rfl ?_
      rintro rfl
      exact kx_zret hX hE ok_Forged_isOf (nx := 20) rfl rfl (Or.inl rfl) ⟨Nat.le_of_ble_eq_true rfl, Nat.le_of_ble_eq_true rfl⟩
    · refine kx_go 2 (pc' := 19) (lv' := [.ref q0, .int x1]) (st' := [.int (1 : Int32)]) hX ok_Forged_isOf rfl ?_
      rintro rfl
      exact kx_zret hX hE ok_Forged_isOf (nx := 20) rfl rfl (Or.inr rfl) ⟨Nat.le_of_ble_eq_true rfl, Nat.le_of_ble_eq_true rfl⟩
def M_VisOf (C : HC) (q0 : Nat) (x1 : Int32) : Int32 := if kc C q0 = 0 then M_Stroke_isOf q0 x1 else if kc C q0 = 1 then M_Red_isOf q0 x1 else if kc C q0 = 2 then M_Black_isOf q0 x1 else if kc C q0 = 3 then M_Scratch_isOf q0 x1 else if kc C q0 = 4 then M_Child_isOf q0 x1 else if kc C q0 = 5 then M_Soot_isOf q0 x1 else M_Forged_isOf q0 x1
theorem s_VisOf {G : xG} {d : Nat} (hd : 2 ≤ d) (C : HC) (I : HI) (q0 : Nat) (x1 : Int32) (hq0 : gS C q0 = true) (r : Int32) : M_VisOf C q0 x1 = r → kM G d (sel_isOf (kc C q0)) [.ref q0, .int x1] C I 0 0 (some (.int r)) C I := by
  unfold M_VisOf
  refine kx_if (fun h0 => ?_) (fun h0 => ?_)
  · rw [show sel_isOf (kc C q0) = m_Stroke_isOf by rw [h0]; rfl]
    exact s_Stroke_isOf (by omega) C I q0 x1 hq0 _
  ·
    refine kx_if (fun h1 => ?_) (fun h1 => ?_)
    · rw [show sel_isOf (kc C q0) = m_Red_isOf by rw [h1]; rfl]
      exact s_Red_isOf (by omega) C I q0 x1 hq0 _
    ·
      refine kx_if (fun h2 => ?_) (fun h2 => ?_)
      · rw [show sel_isOf (kc C q0) = m_Black_isOf by rw [h2]; rfl]
        exact s_Black_isOf (by omega) C I q0 x1 hq0 _
      ·
        refine kx_if (fun h3 => ?_) (fun h3 => ?_)
        · rw [show sel_isOf (kc C q0) = m_Scratch_isOf by rw [h3]; rfl]
          exact s_Scratch_isOf (by omega) C I q0 x1 hq0 _
        ·
          refine kx_if (fun h4 => ?_) (fun h4 => ?_)
          · rw [show sel_isOf (kc C q0) = m_Child_isOf by rw [h4]; rfl]
            exact s_Child_isOf (by omega) C I q0 x1 hq0 _
          ·
            refine kx_if (fun h5 => ?_) (fun h5 => ?_)
            · rw [show sel_isOf (kc C q0) = m_Soot_isOf by rw [h5]; rfl]
              exact s_Soot_isOf (by omega) C I q0 x1 hq0 _
            ·
              have h6 : kc C q0 = 6 := by have := gS_k hq0; omega
              rw [show sel_isOf (kc C q0) = m_Forged_isOf by rw [h6]; rfl]
              exact s_Forged_isOf (by omega) C I q0 x1 hq0 _
def M_H_as (C : HC) (I : HI) (x1 : Int32) (x2 : Int32) : Option (Int32 × HI) := if (M_Wall_hasStroke I x1) = (0 : Int32) then (Option.bind (M_H_error I (1 : Int32)) fun p2 => some (p2.1, p2.2)) else (if (M_Wall_within x2 (6 : Int32)) = (0 : Int32) then (Option.bind (M_H_error I (1 : Int32)) fun p4 => some (p4.1, p4.2)) else (grd (bnd x1 8 && gS C (hT C x1.toNatClampNeg)) (if (M_VisOf C (hT C x1.toNatClampNeg) x2) = (0 : Int32) then (Option.bind (M_H_error I (5 : Int32)) fun p7 => some (p7.1, p7.2)) else (some ((I (hT C x1.toNatClampNeg) 1), I)))))
theorem s_H_as {G : xG} {d : Nat} (hd : 3 ≤ d) (C : HC) (I : HI) (x1 : Int32) (x2 : Int32)  (r : Int32 × HI) : M_H_as C I x1 x2 = some r → kM G d m_H_as [.ref 0, .int x1, .int x2] C I 0 0 (some (.int r.1)) C r.2 := by
  unfold M_H_as
  refine kM.of (by decide +kernel) (Nat.le_of_ble_eq_true rfl) (lv := [.ref 0, .int x1, .int x2]) rfl (fun X hX hE => ?_)
  refine kx_go 1 (pc' := 1) (lv' := [.ref 0, .int x1, .int x2]) (st' := [.ref 0]) hX ok_H_as rfl ?_
  refine kx_getp hX ok_H_as rfl (q := 1) (nx := 4) rfl ?_
  refine kx_go 1 (pc' := 5) (lv' := [.ref 0, .int x1, .int x2]) (st' := [.int x1, .ref 1]) hX ok_H_as rfl ?_
  refine kx_V (r := 1) (as := [.int x1]) (by decide) hX ok_H_as (nx := 8) rfl l_H_71 (by decide) rfl (fun _ => s_Wall_hasStroke (G := G) (d := 0) (Nat.le_refl _) C I x1 _ rfl) (by omega) rfl (rest := []) rfl (Nat.le_of_ble_eq_true rfl) ⟨Nat.le_of_ble_eq_true rfl, Nat.le_of_ble_eq_true rfl⟩ ?_
  show _ → kW G X m_H_as C I 0 0 8 [.ref 0, .int x1, .int x2] [.int (M_Wall_hasStroke I x1)]
  refine kx_go 1 (pc' := if (M_Wall_hasStroke I x1) = (0 : Int32) then 20 else 11) (lv' := [.ref 0, .int x1, .int x2]) (st' := []) hX ok_H_as rfl ?_
  refine kx_ite (fun c1 => ?_) (fun c1 => ?_)
  · refine kx_go 2 (pc' := 22) (lv' := [.ref 0, .int x1, .int x2]) (st' := [.int (1 : Int32), .ref 0]) hX ok_H_as rfl ?_
    refine kx_bind (fun p2 hp2 => ?_)
    refine kx_V (r := 0) (as := [.int (1 : Int32)]) (by decide) hX ok_H_as (nx := 25) rfl l_H_60 (by decide) rfl (fun _ => s_H_error (G := G) (d := 0) (Nat.le_refl _) C I (1 : Int32) p2 hp2) (by omega) rfl (rest := []) rfl (Nat.le_of_ble_eq_true rfl) ⟨Nat.le_of_ble_eq_true rfl, Nat.le_of_ble_eq_true rfl⟩ ?_
    show _ → kW G X m_H_as C p2.2 0 0 25 [.ref 0, .int x1, .int x2] [.int p2.1]
    intro h; have h := Option.some.inj h; subst h
    exact kx_iret hX hE ok_H_as (nx := 26) rfl rfl ⟨Nat.le_of_ble_eq_true rfl, Nat.le_of_ble_eq_true rfl⟩
  · refine kx_go 2 (pc' := 14) (lv' := [.ref 0, .int x1, .int x2]) (st' := [.int (6 : Int32), .int x2]) hX ok_H_as rfl ?_
    refine kx_S (as := [.int x2, .int (6 : Int32)]) hX ok_H_as (nx := 17) rfl l_H_56 (fun _ => s_Wall_within (G := G) (d := 0) (Nat.le_refl _) C I x2 (6 : Int32) _ rfl) (by omega) rfl (rest := []) rfl (Nat.le_of_ble_eq_true rfl) ⟨Nat.le_of_ble_eq_true rfl, Nat.le_of_ble_eq_true rfl⟩ ?_
    show _ → kW G X m_H_as C I 0 0 17 [.ref 0, .int x1, .int x2] [.int (M_Wall_within x2 (6 : Int32))]
    refine kx_go 1 (pc' := if (M_Wall_within x2 (6 : Int32)) = (0 : Int32) then 20 else 26) (lv' := [.ref 0, .int x1, .int x2]) (st' := []) hX ok_H_as rfl ?_
    refine kx_ite (fun c3 => ?_) (fun c3 => ?_)
    · refine kx_go 2 (pc' := 22) (lv' := [.ref 0, .int x1, .int x2]) (st' := [.int (1 : Int32), .ref 0]) hX ok_H_as rfl ?_
      refine kx_bind (fun p4 hp4 => ?_)
      refine kx_V (r := 0) (as := [.int (1 : Int32)]) (by decide) hX ok_H_as (nx := 25) rfl l_H_60 (by decide) rfl (fun _ => s_H_error (G := G) (d := 0) (Nat.le_refl _) C I (1 : Int32) p4 hp4) (by omega) rfl (rest := []) rfl (Nat.le_of_ble_eq_true rfl) ⟨Nat.le_of_ble_eq_true rfl, Nat.le_of_ble_eq_true rfl⟩ ?_
      show _ → kW G X m_H_as C p4.2 0 0 25 [.ref 0, .int x1, .int x2] [.int p4.1]
      intro h; have h := Option.some.inj h; subst h
      exact kx_iret hX hE ok_H_as (nx := 26) rfl rfl ⟨Nat.le_of_ble_eq_true rfl, Nat.le_of_ble_eq_true rfl⟩
    · refine kx_go 1 (pc' := 27) (lv' := [.ref 0, .int x1, .int x2]) (st' := [.ref 0]) hX ok_H_as rfl ?_
      refine kx_getp hX ok_H_as rfl (q := 1) (nx := 30) rfl ?_
      refine kx_getp hX ok_H_as rfl (q := 2) (nx := 33) rfl ?_
      refine kx_go 1 (pc' := 34) (lv' := [.ref 0, .int x1, .int x2]) (st' := [.int x1, .ref 2]) hX ok_H_as rfl ?_
      refine kx_aaT hX ok_H_as (nx := 35) rfl (fun bhq5 hq5 => ?_)
      refine kx_go 1 (pc' := 36) (lv' := [.ref 0, .int x1, .int x2]) (st' := [.int x2, .ref (hT C x1.toNatClampNeg)]) hX ok_H_as rfl ?_
      refine kx_U (as := [.int x2]) hq5 hX ok_H_as (nx := 39) rfl (l_H_110 (gS_k hq5)) (fun _ => s_VisOf (G := G) (d := 2) (Nat.le_refl _) C I (hT C x1.toNatClampNeg) x2 hq5 _ rfl) (by omega) rfl (rest := []) rfl (Nat.le_of_ble_eq_true rfl) ⟨Nat.le_of_ble_eq_true rfl, Nat.le_of_ble_eq_true rfl⟩ ?_
      show _ → kW G X m_H_as C I 0 0 39 [.ref 0, .int x1, .int x2] [.int (M_VisOf C (hT C x1.toNatClampNeg) x2)]
      refine kx_go 1 (pc' := if (M_VisOf C (hT C x1.toNatClampNeg) x2) = (0 : Int32) then 57 else 42) (lv' := [.ref 0, .int x1, .int x2]) (st' := []) hX ok_H_as rfl ?_
      refine kx_ite (fun c6 => ?_) (fun c6 => ?_)
      · refine kx_go 2 (pc' := 59) (lv' := [.ref 0, .int x1, .int x2]) (st' := [.int (5 : Int32), .ref 0]) hX ok_H_as rfl ?_
        refine kx_bind (fun p7 hp7 => ?_)
        refine kx_V (r := 0) (as := [.int (5 : Int32)]) (by decide) hX ok_H_as (nx := 62) rfl l_H_60 (by decide) rfl (fun _ => s_H_error (G := G) (d := 0) (Nat.le_refl _) C I (5 : Int32) p7 hp7) (by omega) rfl (rest := []) rfl (Nat.le_of_ble_eq_true rfl) ⟨Nat.le_of_ble_eq_true rfl, Nat.le_of_ble_eq_true rfl⟩ ?_
        show _ → kW G X m_H_as C p7.2 0 0 62 [.ref 0, .int x1, .int x2] [.int p7.1]
        intro h; have h := Option.some.inj h; subst h
        exact kx_iret hX hE ok_H_as (nx := 63) rfl rfl ⟨Nat.le_of_ble_eq_true rfl, Nat.le_of_ble_eq_true rfl⟩
      · refine kx_go 1 (pc' := 43) (lv' := [.ref 0, .int x1, .int x2]) (st' := [.ref 0]) hX ok_H_as rfl ?_
        refine kx_getp hX ok_H_as rfl (q := 1) (nx := 46) rfl ?_
        refine kx_getp hX ok_H_as rfl (q := 2) (nx := 49) rfl ?_
        refine kx_go 1 (pc' := 50) (lv' := [.ref 0, .int x1, .int x2]) (st' := [.int x1, .ref 2]) hX ok_H_as rfl ?_
        refine kx_aaTk bhq5 hX ok_H_as (nx := 51) rfl ?_
        refine kx_gets hq5 hX ok_H_as rfl (k := 1) (nx := 54) rfl ?_
        refine kx_go 1 (pc' := 62) (lv' := [.ref 0, .int x1, .int x2]) (st' := [.int (I (hT C x1.toNatClampNeg) 1)]) hX ok_H_as rfl ?_
        intro h; have h := Option.some.inj h; subst h
        exact kx_iret hX hE ok_H_as (nx := 63) rfl rfl ⟨Nat.le_of_ble_eq_true rfl, Nat.le_of_ble_eq_true rfl⟩
def M_Wall_areTwo (I : HI) (x1 : Int32) (x2 : Int32) : Int32 := if (M_Wall_hasStroke I x1) = (0 : Int32) then ((0 : Int32)) else (if (M_Wall_hasStroke I x2) = (0 : Int32) then ((0 : Int32)) else (if x1 = x2 then ((0 : Int32)) else ((1 : Int32))))
theorem s_Wall_areTwo {G : xG} {d : Nat} (hd : 1 ≤ d) (C : HC) (I : HI) (x1 : Int32) (x2 : Int32)  (r : Int32) : M_Wall_areTwo I x1 x2 = r → kM G d m_Wall_areTwo [.ref 1, .int x1, .int x2] C I 0 0 (some (.int r)) C I := by
  unfold M_Wall_areTwo
  refine kM.of (by decide +kernel) (Nat.le_of_ble_eq_true rfl) (lv := [.ref 1, .int x1, .int x2]) rfl (fun X hX hE => ?_)
  refine kx_go 2 (pc' := 2) (lv' := [.ref 1, .int x1, .int x2]) (st' := [.int x1, .ref 1]) hX ok_Wall_areTwo rfl ?_
  refine kx_V (r := 1) (as := [.int x1]) (by decide) hX ok_Wall_areTwo (nx := 5) rfl l_Wall_95 (by decide) rfl (fun _ => s_Wall_hasStroke (G := G) (d := 0) (Nat.le_refl _) C I x1 _ rfl) (by omega) rfl (rest := []) rfl (Nat.le_of_ble_eq_true rfl) ⟨Nat.le_of_ble_eq_true rfl, Nat.le_of_ble_eq_true rfl⟩ ?_
  show _ → kW G X m_Wall_areTwo C I 0 0 5 [.ref 1, .int x1, .int x2] [.int (M_Wall_hasStroke I x1)]
  refine kx_go 1 (pc' := if (M_Wall_hasStroke I x1) = (0 : Int32) then 25 else 8) (lv' := [.ref 1, .int x1, .int x2]) (st' := []) hX ok_Wall_areTwo rfl ?_
  refine kx_ite (fun c1 => ?_) (fun c1 => ?_)
  · refine kx_go 1 (pc' := 26) (lv' := [.ref 1, .int x1, .int x2]) (st' := [.int (0 : Int32)]) hX ok_Wall_areTwo rfl ?_
    rintro rfl
    exact kx_zret hX hE ok_Wall_areTwo (nx := 27) rfl rfl (Or.inl rfl) ⟨Nat.le_of_ble_eq_true rfl, Nat.le_of_ble_eq_true rfl⟩
  · refine kx_go 2 (pc' := 10) (lv' := [.ref 1, .int x1, .int x2]) (st' := [.int x2, .ref 1]) hX ok_Wall_areTwo rfl ?_
    refine kx_V (r := 1) (as := [.int x2]) (by decide) hX ok_Wall_areTwo (nx := 13) rfl l_Wall_95 (by decide) rfl (fun _ => s_Wall_hasStroke (G := G) (d := 0) (Nat.le_refl _) C I x2 _ rfl) (by omega) rfl (rest := []) rfl (Nat.le_of_ble_eq_true rfl) ⟨Nat.le_of_ble_eq_true rfl, Nat.le_of_ble_eq_true rfl⟩ ?_
    show _ → kW G X m_Wall_areTwo C I 0 0 13 [.ref 1, .int x1, .int x2] [.int (M_Wall_hasStroke I x2)]
    refine kx_go 1 (pc' := if (M_Wall_hasStroke I x2) = (0 : Int32) then 25 else 16) (lv' := [.ref 1, .int x1, .int x2]) (st' := []) hX ok_Wall_areTwo rfl ?_
    refine kx_ite (fun c2 => ?_) (fun c2 => ?_)
    · refine kx_go 1 (pc' := 26) (lv' := [.ref 1, .int x1, .int x2]) (st' := [.int (0 : Int32)]) hX ok_Wall_areTwo rfl ?_
      rintro rfl
      exact kx_zret hX hE ok_Wall_areTwo (nx := 27) rfl rfl (Or.inl rfl) ⟨Nat.le_of_ble_eq_true rfl, Nat.le_of_ble_eq_true rfl⟩
    · refine kx_go 3 (pc' := if x1 = x2 then 25 else 21) (lv' := [.ref 1, .int x1, .int x2]) (st' := []) hX ok_Wall_areTwo rfl ?_
      refine kx_ite (fun c3 => ?_) (fun c3 => ?_)
      · refine kx_go 1 (pc' := 26) (lv' := [.ref 1, .int x1, .int x2]) (st' := [.int (0 : Int32)]) hX ok_Wall_areTwo rfl ?_
        rintro rfl
        exact kx_zret hX hE ok_Wall_areTwo (nx := 27) rfl rfl (Or.inl rfl) ⟨Nat.le_of_ble_eq_true rfl, Nat.le_of_ble_eq_true rfl⟩
      · refine kx_go 2 (pc' := 26) (lv' := [.ref 1, .int x1, .int x2]) (st' := [.int (1 : Int32)]) hX ok_Wall_areTwo rfl ?_
        rintro rfl
        exact kx_zret hX hE ok_Wall_areTwo (nx := 27) rfl rfl (Or.inr rfl) ⟨Nat.le_of_ble_eq_true rfl, Nat.le_of_ble_eq_true rfl⟩
def M_Wall_isLook (I : HI) (x1 : Int32) (x2 : Int32) (x3 : Int32) : Int32 := if (M_Wall_areTwo I x1 x2) = (0 : Int32) then ((0 : Int32)) else (if x3 < (1 : Int32) then ((0 : Int32)) else (if (99 : Int32) < x3 then ((0 : Int32)) else ((1 : Int32))))
theorem s_Wall_isLook {G : xG} {d : Nat} (hd : 2 ≤ d) (C : HC) (I : HI) (x1 : Int32) (x2 : Int32) (x3 : Int32)  (r : Int32) : M_Wall_isLook I x1 x2 x3 = r → kM G d m_Wall_isLook [.ref 1, .int x1, .int x2, .int x3] C I 0 0 (some (.int r)) C I := by
  unfold M_Wall_isLook
  refine kM.of (by decide +kernel) (Nat.le_of_ble_eq_true rfl) (lv := [.ref 1, .int x1, .int x2, .int x3]) rfl (fun X hX hE => ?_)
  refine kx_go 3 (pc' := 3) (lv' := [.ref 1, .int x1, .int x2, .int x3]) (st' := [.int x2, .int x1, .ref 1]) hX ok_Wall_isLook rfl ?_
  refine kx_V (r := 1) (as := [.int x1, .int x2]) (by decide) hX ok_Wall_isLook (nx := 6) rfl l_Wall_162 (by decide) rfl (fun _ => s_Wall_areTwo (G := G) (d := 1) (Nat.le_refl _) C I x1 x2 _ rfl) (by omega) rfl (rest := []) rfl (Nat.le_of_ble_eq_true rfl) ⟨Nat.le_of_ble_eq_true rfl, Nat.le_of_ble_eq_true rfl⟩ ?_
  show _ → kW G X m_Wall_isLook C I 0 0 6 [.ref 1, .int x1, .int x2, .int x3] [.int (M_Wall_areTwo I x1 x2)]
  refine kx_go 1 (pc' := if (M_Wall_areTwo I x1 x2) = (0 : Int32) then 24 else 9) (lv' := [.ref 1, .int x1, .int x2, .int x3]) (st' := []) hX ok_Wall_isLook rfl ?_
  refine kx_ite (fun c1 => ?_) (fun c1 => ?_)
  · refine kx_go 1 (pc' := 25) (lv' := [.ref 1, .int x1, .int x2, .int x3]) (st' := [.int (0 : Int32)]) hX ok_Wall_isLook rfl ?_
    rintro rfl
    exact kx_zret hX hE ok_Wall_isLook (nx := 26) rfl rfl (Or.inl rfl) ⟨Nat.le_of_ble_eq_true rfl, Nat.le_of_ble_eq_true rfl⟩
  · refine kx_go 3 (pc' := if x3 < (1 : Int32) then 24 else 14) (lv' := [.ref 1, .int x1, .int x2, .int x3]) (st' := []) hX ok_Wall_isLook rfl ?_
    refine kx_ite (fun c2 => ?_) (fun c2 => ?_)
    · refine kx_go 1 (pc' := 25) (lv' := [.ref 1, .int x1, .int x2, .int x3]) (st' := [.int (0 : Int32)]) hX ok_Wall_isLook rfl ?_
      rintro rfl
      exact kx_zret hX hE ok_Wall_isLook (nx := 26) rfl rfl (Or.inl rfl) ⟨Nat.le_of_ble_eq_true rfl, Nat.le_of_ble_eq_true rfl⟩
    · refine kx_go 3 (pc' := if (99 : Int32) < x3 then 24 else 20) (lv' := [.ref 1, .int x1, .int x2, .int x3]) (st' := []) hX ok_Wall_isLook rfl ?_
      refine kx_ite (fun c3 => ?_) (fun c3 => ?_)
      · refine kx_go 1 (pc' := 25) (lv' := [.ref 1, .int x1, .int x2, .int x3]) (st' := [.int (0 : Int32)]) hX ok_Wall_isLook rfl ?_
        rintro rfl
        exact kx_zret hX hE ok_Wall_isLook (nx := 26) rfl rfl (Or.inl rfl) ⟨Nat.le_of_ble_eq_true rfl, Nat.le_of_ble_eq_true rfl⟩
      · refine kx_go 2 (pc' := 25) (lv' := [.ref 1, .int x1, .int x2, .int x3]) (st' := [.int (1 : Int32)]) hX ok_Wall_isLook rfl ?_
        rintro rfl
        exact kx_zret hX hE ok_Wall_isLook (nx := 26) rfl rfl (Or.inr rfl) ⟨Nat.le_of_ble_eq_true rfl, Nat.le_of_ble_eq_true rfl⟩
def M_Wall_addLook (I : HI) (x1 : Int32) (x2 : Int32) (x3 : Int32) : Option (Int32 × HI) := grd (bnd (I 1 5) 12) (lt (xu I 11 (I 1 5).toNatClampNeg x1) fun J2 => lt (xu J2 12 (I 1 5).toNatClampNeg x2) fun J3 => lt (xu J3 13 (I 1 5).toNatClampNeg x3) fun J4 => lt (xu J4 1 5 ((J4 1 5) + (1 : Int32))) fun J5 => some ((I 1 5), J5))
theorem s_Wall_addLook {G : xG} {d : Nat} (hd : 0 ≤ d) (C : HC) (I : HI) (x1 : Int32) (x2 : Int32) (x3 : Int32)  (r : Int32 × HI) : M_Wall_addLook I x1 x2 x3 = some r → kM G d m_Wall_addLook [.ref 1, .int x1, .int x2, .int x3] C I 0 0 (some (.int r.1)) C r.2 := by
  unfold M_Wall_addLook
  refine kM.of (by decide +kernel) (Nat.le_of_ble_eq_true rfl) (lv := [.ref 1, .int x1, .int x2, .int x3, .null]) rfl (fun X hX hE => ?_)
  refine kx_go 1 (pc' := 1) (lv' := [.ref 1, .int x1, .int x2, .int x3, .null]) (st' := [.ref 1]) hX ok_Wall_addLook rfl ?_
  refine kx_geti hX ok_Wall_addLook rfl (k := 5) (nx := 4) rfl ?_
  refine kx_go 2 (pc' := 7) (lv' := [.ref 1, .int x1, .int x2, .int x3, .int (I 1 5)]) (st' := [.ref 1]) hX ok_Wall_addLook rfl ?_
  refine kx_getp hX ok_Wall_addLook rfl (q := 11) (nx := 10) rfl ?_
  refine kx_go 2 (pc' := 13) (lv' := [.ref 1, .int x1, .int x2, .int x3, .int (I 1 5)]) (st' := [.int x1, .int (I 1 5), .ref 11]) hX ok_Wall_addLook rfl ?_
  refine kx_iast hX ok_Wall_addLook (w := 12) (nx := 14) rfl (fun b1 => ?_)
  refine kx_lt (Q := fun J2 => kW G X m_Wall_addLook C J2 0 0 14 [.ref 1, .int x1, .int x2, .int x3, .int (I 1 5)] []) (fun J2 eJ2 => ?_)
  refine kx_go 1 (pc' := 15) (lv' := [.ref 1, .int x1, .int x2, .int x3, .int (I 1 5)]) (st' := [.ref 1]) hX ok_Wall_addLook rfl ?_
  refine kx_getp hX ok_Wall_addLook rfl (q := 12) (nx := 18) rfl ?_
  refine kx_go 2 (pc' := 21) (lv' := [.ref 1, .int x1, .int x2, .int x3, .int (I 1 5)]) (st' := [.int x2, .int (I 1 5), .ref 12]) hX ok_Wall_addLook rfl ?_
  refine kx_iastc hX ok_Wall_addLook (w := 12) (nx := 22) rfl b1 (k := (I 1 5).toNatClampNeg) rfl ?_
  refine kx_lt (Q := fun J3 => kW G X m_Wall_addLook C J3 0 0 22 [.ref 1, .int x1, .int x2, .int x3, .int (I 1 5)] []) (fun J3 eJ3 => ?_)
  refine kx_go 1 (pc' := 23) (lv' := [.ref 1, .int x1, .int x2, .int x3, .int (I 1 5)]) (st' := [.ref 1]) hX ok_Wall_addLook rfl ?_
  refine kx_getp hX ok_Wall_addLook rfl (q := 13) (nx := 26) rfl ?_
  refine kx_go 2 (pc' := 29) (lv' := [.ref 1, .int x1, .int x2, .int x3, .int (I 1 5)]) (st' := [.int x3, .int (I 1 5), .ref 13]) hX ok_Wall_addLook rfl ?_
  refine kx_iastc hX ok_Wall_addLook (w := 12) (nx := 30) rfl b1 (k := (I 1 5).toNatClampNeg) rfl ?_
  refine kx_lt (Q := fun J4 => kW G X m_Wall_addLook C J4 0 0 30 [.ref 1, .int x1, .int x2, .int x3, .int (I 1 5)] []) (fun J4 eJ4 => ?_)
  refine kx_go 2 (pc' := 32) (lv' := [.ref 1, .int x1, .int x2, .int x3, .int (I 1 5)]) (st' := [.ref 1, .ref 1]) hX ok_Wall_addLook rfl ?_
  refine kx_geti hX ok_Wall_addLook rfl (k := 5) (nx := 35) rfl ?_
  refine kx_go 2 (pc' := 37) (lv' := [.ref 1, .int x1, .int x2, .int x3, .int (I 1 5)]) (st' := [.int ((J4 1 5) + (1 : Int32)), .ref 1]) hX ok_Wall_addLook rfl ?_
  refine kx_puti hX ok_Wall_addLook rfl (k := 5) (nx := 40) rfl rfl ?_
  refine kx_lt (Q := fun J5 => kW G X m_Wall_addLook C J5 0 0 40 [.ref 1, .int x1, .int x2, .int x3, .int (I 1 5)] []) (fun J5 eJ5 => ?_)
  refine kx_go 1 (pc' := 42) (lv' := [.ref 1, .int x1, .int x2, .int x3, .int (I 1 5)]) (st' := [.int (I 1 5)]) hX ok_Wall_addLook rfl ?_
  intro h; have h := Option.some.inj h; subst h
  exact kx_iret hX hE ok_Wall_addLook (nx := 43) rfl rfl ⟨Nat.le_of_ble_eq_true rfl, Nat.le_of_ble_eq_true rfl⟩
def M_H_over (I : HI) (x1 : Int32) (x2 : Int32) (x3 : Int32) : Option (Int32 × HI) := if (M_Wall_isLook I x1 x2 x3) = (0 : Int32) then (Option.bind (M_H_error I (1 : Int32)) fun p2 => some (p2.1, p2.2)) else (if (I 1 5) < (12 : Int32) then (Option.bind (M_Wall_addLook I x1 x2 x3) fun p4 => some (p4.1, p4.2)) else (Option.bind (M_H_error I (4 : Int32)) fun p5 => some (p5.1, p5.2)))
theorem s_H_over {G : xG} {d : Nat} (hd : 3 ≤ d) (C : HC) (I : HI) (x1 : Int32) (x2 : Int32) (x3 : Int32)  (r : Int32 × HI) : M_H_over I x1 x2 x3 = some r → kM G d m_H_over [.ref 0, .int x1, .int x2, .int x3] C I 0 0 (some (.int r.1)) C r.2 := by
  unfold M_H_over
  refine kM.of (by decide +kernel) (Nat.le_of_ble_eq_true rfl) (lv := [.ref 0, .int x1, .int x2, .int x3]) rfl (fun X hX hE => ?_)
  refine kx_go 1 (pc' := 1) (lv' := [.ref 0, .int x1, .int x2, .int x3]) (st' := [.ref 0]) hX ok_H_over rfl ?_
  refine kx_getp hX ok_H_over rfl (q := 1) (nx := 4) rfl ?_
  refine kx_go 3 (pc' := 7) (lv' := [.ref 0, .int x1, .int x2, .int x3]) (st' := [.int x3, .int x2, .int x1, .ref 1]) hX ok_H_over rfl ?_
  refine kx_V (r := 1) (as := [.int x1, .int x2, .int x3]) (by decide) hX ok_H_over (nx := 10) rfl l_H_113 (by decide) rfl (fun _ => s_Wall_isLook (G := G) (d := 2) (Nat.le_refl _) C I x1 x2 x3 _ rfl) (by omega) rfl (rest := []) rfl (Nat.le_of_ble_eq_true rfl) ⟨Nat.le_of_ble_eq_true rfl, Nat.le_of_ble_eq_true rfl⟩ ?_
  show _ → kW G X m_H_over C I 0 0 10 [.ref 0, .int x1, .int x2, .int x3] [.int (M_Wall_isLook I x1 x2 x3)]
  refine kx_go 1 (pc' := if (M_Wall_isLook I x1 x2 x3) = (0 : Int32) then 13 else 19) (lv' := [.ref 0, .int x1, .int x2, .int x3]) (st' := []) hX ok_H_over rfl ?_
  refine kx_ite (fun c1 => ?_) (fun c1 => ?_)
  · refine kx_go 2 (pc' := 15) (lv' := [.ref 0, .int x1, .int x2, .int x3]) (st' := [.int (1 : Int32), .ref 0]) hX ok_H_over rfl ?_
    refine kx_bind (fun p2 hp2 => ?_)
    refine kx_V (r := 0) (as := [.int (1 : Int32)]) (by decide) hX ok_H_over (nx := 18) rfl l_H_60 (by decide) rfl (fun _ => s_H_error (G := G) (d := 0) (Nat.le_refl _) C I (1 : Int32) p2 hp2) (by omega) rfl (rest := []) rfl (Nat.le_of_ble_eq_true rfl) ⟨Nat.le_of_ble_eq_true rfl, Nat.le_of_ble_eq_true rfl⟩ ?_
    show _ → kW G X m_H_over C p2.2 0 0 18 [.ref 0, .int x1, .int x2, .int x3] [.int p2.1]
    intro h; have h := Option.some.inj h; subst h
    exact kx_iret hX hE ok_H_over (nx := 19) rfl rfl ⟨Nat.le_of_ble_eq_true rfl, Nat.le_of_ble_eq_true rfl⟩
  · refine kx_go 1 (pc' := 20) (lv' := [.ref 0, .int x1, .int x2, .int x3]) (st' := [.ref 0]) hX ok_H_over rfl ?_
    refine kx_getp hX ok_H_over rfl (q := 1) (nx := 23) rfl ?_
    refine kx_geti hX ok_H_over rfl (k := 5) (nx := 26) rfl ?_
    refine kx_go 2 (pc' := if (I 1 5) < (12 : Int32) then 37 else 31) (lv' := [.ref 0, .int x1, .int x2, .int x3]) (st' := []) hX ok_H_over rfl ?_
    refine kx_ite (fun c3 => ?_) (fun c3 => ?_)
    · refine kx_go 1 (pc' := 38) (lv' := [.ref 0, .int x1, .int x2, .int x3]) (st' := [.ref 0]) hX ok_H_over rfl ?_
      refine kx_getp hX ok_H_over rfl (q := 1) (nx := 41) rfl ?_
      refine kx_go 3 (pc' := 44) (lv' := [.ref 0, .int x1, .int x2, .int x3]) (st' := [.int x3, .int x2, .int x1, .ref 1]) hX ok_H_over rfl ?_
      refine kx_bind (fun p4 hp4 => ?_)
      refine kx_V (r := 1) (as := [.int x1, .int x2, .int x3]) (by decide) hX ok_H_over (nx := 47) rfl l_H_120 (by decide) rfl (fun _ => s_Wall_addLook (G := G) (d := 0) (Nat.le_refl _) C I x1 x2 x3 p4 hp4) (by omega) rfl (rest := []) rfl (Nat.le_of_ble_eq_true rfl) ⟨Nat.le_of_ble_eq_true rfl, Nat.le_of_ble_eq_true rfl⟩ ?_
      show _ → kW G X m_H_over C p4.2 0 0 47 [.ref 0, .int x1, .int x2, .int x3] [.int p4.1]
      intro h; have h := Option.some.inj h; subst h
      exact kx_iret hX hE ok_H_over (nx := 48) rfl rfl ⟨Nat.le_of_ble_eq_true rfl, Nat.le_of_ble_eq_true rfl⟩
    · refine kx_go 2 (pc' := 33) (lv' := [.ref 0, .int x1, .int x2, .int x3]) (st' := [.int (4 : Int32), .ref 0]) hX ok_H_over rfl ?_
      refine kx_bind (fun p5 hp5 => ?_)
      refine kx_V (r := 0) (as := [.int (4 : Int32)]) (by decide) hX ok_H_over (nx := 36) rfl l_H_60 (by decide) rfl (fun _ => s_H_error (G := G) (d := 0) (Nat.le_refl _) C I (4 : Int32) p5 hp5) (by omega) rfl (rest := []) rfl (Nat.le_of_ble_eq_true rfl) ⟨Nat.le_of_ble_eq_true rfl, Nat.le_of_ble_eq_true rfl⟩ ?_
      show _ → kW G X m_H_over C p5.2 0 0 36 [.ref 0, .int x1, .int x2, .int x3] [.int p5.1]
      intro h; have h := Option.some.inj h; subst h
      exact kx_iret hX hE ok_H_over (nx := 37) rfl rfl ⟨Nat.le_of_ble_eq_true rfl, Nat.le_of_ble_eq_true rfl⟩
def M_Wall_hasLook (I : HI) (x1 : Int32) : Int32 := if x1 < (0 : Int32) then ((0 : Int32)) else (if (I 1 5) ≤ x1 then ((0 : Int32)) else ((1 : Int32)))
theorem s_Wall_hasLook {G : xG} {d : Nat} (hd : 0 ≤ d) (C : HC) (I : HI) (x1 : Int32)  (r : Int32) : M_Wall_hasLook I x1 = r → kM G d m_Wall_hasLook [.ref 1, .int x1] C I 0 0 (some (.int r)) C I := by
  unfold M_Wall_hasLook
  refine kM.of (by decide +kernel) (Nat.le_of_ble_eq_true rfl) (lv := [.ref 1, .int x1]) rfl (fun X hX hE => ?_)
  refine kx_go 2 (pc' := if x1 < (0 : Int32) then 16 else 4) (lv' := [.ref 1, .int x1]) (st' := []) hX ok_Wall_hasLook rfl ?_
  refine kx_ite (fun c1 => ?_) (fun c1 => ?_)
  · refine kx_go 1 (pc' := 17) (lv' := [.ref 1, .int x1]) (st' := [.int (0 : Int32)]) hX ok_Wall_hasLook rfl ?_
    rintro rfl
    exact kx_zret hX hE ok_Wall_hasLook (nx := 18) rfl rfl (Or.inl rfl) ⟨Nat.le_of_ble_eq_true rfl, Nat.le_of_ble_eq_true rfl⟩
  · refine kx_go 2 (pc' := 6) (lv' := [.ref 1, .int x1]) (st' := [.ref 1, .int x1]) hX ok_Wall_hasLook rfl ?_
    refine kx_geti hX ok_Wall_hasLook rfl (k := 5) (nx := 9) rfl ?_
    refine kx_go 1 (pc' := if (I 1 5) ≤ x1 then 16 else 12) (lv' := [.ref 1, .int x1]) (st' := []) hX ok_Wall_hasLook rfl ?_
    refine kx_ite (fun c2 => ?_) (fun c2 => ?_)
    · refine kx_go 1 (pc' := 17) (lv' := [.ref 1, .int x1]) (st' := [.int (0 : Int32)]) hX ok_Wall_hasLook rfl ?_
      rintro rfl
      exact kx_zret hX hE ok_Wall_hasLook (nx := 18) rfl rfl (Or.inl rfl) ⟨Nat.le_of_ble_eq_true rfl, Nat.le_of_ble_eq_true rfl⟩
    · refine kx_go 2 (pc' := 17) (lv' := [.ref 1, .int x1]) (st' := [.int (1 : Int32)]) hX ok_Wall_hasLook rfl ?_
      rintro rfl
      exact kx_zret hX hE ok_Wall_hasLook (nx := 18) rfl rfl (Or.inr rfl) ⟨Nat.le_of_ble_eq_true rfl, Nat.le_of_ble_eq_true rfl⟩
def M_Wall_weightOf (C : HC) (I : HI) (x1 : Int32) : Option (Int32 × HI) := grd (bnd x1 12) (grd (bnd (I 11 x1.toNatClampNeg) 8 && gS C (hT C (I 11 x1.toNatClampNeg).toNatClampNeg)) (Option.bind (M_Wall_givenBy I (1 : Int32) (I 13 x1.toNatClampNeg) (M_Vkind C (hT C (I 11 x1.toNatClampNeg).toNatClampNeg)) (I (hT C (I 11 x1.toNatClampNeg).toNatClampNeg) 6) (0 : Int32)) fun p3 => some (p3.1, p3.2)))
theorem s_Wall_weightOf {G : xG} {d : Nat} (hd : 3 ≤ d) (C : HC) (I : HI) (x1 : Int32)  (r : Int32 × HI) : M_Wall_weightOf C I x1 = some r → kM G d m_Wall_weightOf [.ref 1, .int x1] C I 0 0 (some (.int r.1)) C r.2 := by
  unfold M_Wall_weightOf
  refine kM.of (by decide +kernel) (Nat.le_of_ble_eq_true rfl) (lv := [.ref 1, .int x1, .null]) rfl (fun X hX hE => ?_)
  refine kx_go 1 (pc' := 1) (lv' := [.ref 1, .int x1, .null]) (st' := [.ref 1]) hX ok_Wall_weightOf rfl ?_
  refine kx_getp hX ok_Wall_weightOf rfl (q := 2) (nx := 4) rfl ?_
  refine kx_go 1 (pc' := 5) (lv' := [.ref 1, .int x1, .null]) (st' := [.ref 1, .ref 2]) hX ok_Wall_weightOf rfl ?_
  refine kx_getp hX ok_Wall_weightOf rfl (q := 11) (nx := 8) rfl ?_
  refine kx_go 1 (pc' := 9) (lv' := [.ref 1, .int x1, .null]) (st' := [.int x1, .ref 11, .ref 2]) hX ok_Wall_weightOf rfl ?_
  refine kx_iald hX ok_Wall_weightOf (w := 12) (nx := 10) rfl (fun b1 => ?_)
  refine kx_aaT hX ok_Wall_weightOf (nx := 11) rfl (fun bhq2 hq2 => ?_)
  refine kx_go 4 (pc' := 15) (lv' := [.ref 1, .int x1, .ref (hT C (I 11 x1.toNatClampNeg).toNatClampNeg)]) (st' := [.ref 1, .int (1 : Int32), .ref 1]) hX ok_Wall_weightOf rfl ?_
  refine kx_getp hX ok_Wall_weightOf rfl (q := 13) (nx := 18) rfl ?_
  refine kx_go 1 (pc' := 19) (lv' := [.ref 1, .int x1, .ref (hT C (I 11 x1.toNatClampNeg).toNatClampNeg)]) (st' := [.int x1, .ref 13, .int (1 : Int32), .ref 1]) hX ok_Wall_weightOf rfl ?_
  refine kx_ialdc hX ok_Wall_weightOf (w := 12) (nx := 20) rfl b1 (k := x1.toNatClampNeg) rfl ?_
  refine kx_go 1 (pc' := 21) (lv' := [.ref 1, .int x1, .ref (hT C (I 11 x1.toNatClampNeg).toNatClampNeg)]) (st' := [.ref (hT C (I 11 x1.toNatClampNeg).toNatClampNeg), .int (I 13 x1.toNatClampNeg), .int (1 : Int32), .ref 1]) hX ok_Wall_weightOf rfl ?_
  refine kx_U (as := []) hq2 hX ok_Wall_weightOf (nx := 24) rfl (l_Wall_52 (gS_k hq2)) (fun _ => s_Vkind (G := G) (d := 0) (Nat.le_refl _) C I (hT C (I 11 x1.toNatClampNeg).toNatClampNeg) hq2 _ rfl) (by omega) rfl (rest := [.int (I 13 x1.toNatClampNeg), .int (1 : Int32), .ref 1]) rfl (Nat.le_of_ble_eq_true rfl) ⟨Nat.le_of_ble_eq_true rfl, Nat.le_of_ble_eq_true rfl⟩ ?_
  show _ → kW G X m_Wall_weightOf C I 0 0 24 [.ref 1, .int x1, .ref (hT C (I 11 x1.toNatClampNeg).toNatClampNeg)] [.int (M_Vkind C (hT C (I 11 x1.toNatClampNeg).toNatClampNeg)), .int (I 13 x1.toNatClampNeg), .int (1 : Int32), .ref 1]
  refine kx_go 1 (pc' := 25) (lv' := [.ref 1, .int x1, .ref (hT C (I 11 x1.toNatClampNeg).toNatClampNeg)]) (st' := [.ref (hT C (I 11 x1.toNatClampNeg).toNatClampNeg), .int (M_Vkind C (hT C (I 11 x1.toNatClampNeg).toNatClampNeg)), .int (I 13 x1.toNatClampNeg), .int (1 : Int32), .ref 1]) hX ok_Wall_weightOf rfl ?_
  refine kx_gets hq2 hX ok_Wall_weightOf rfl (k := 6) (nx := 28) rfl ?_
  refine kx_go 1 (pc' := 29) (lv' := [.ref 1, .int x1, .ref (hT C (I 11 x1.toNatClampNeg).toNatClampNeg)]) (st' := [.int (0 : Int32), .int (I (hT C (I 11 x1.toNatClampNeg).toNatClampNeg) 6), .int (M_Vkind C (hT C (I 11 x1.toNatClampNeg).toNatClampNeg)), .int (I 13 x1.toNatClampNeg), .int (1 : Int32), .ref 1]) hX ok_Wall_weightOf rfl ?_
  refine kx_bind (fun p3 hp3 => ?_)
  refine kx_V (r := 1) (as := [.int (1 : Int32), .int (I 13 x1.toNatClampNeg), .int (M_Vkind C (hT C (I 11 x1.toNatClampNeg).toNatClampNeg)), .int (I (hT C (I 11 x1.toNatClampNeg).toNatClampNeg) 6), .int (0 : Int32)]) (by decide) hX ok_Wall_weightOf (nx := 32) rfl l_Wall_149 (by decide) rfl (fun _ => s_Wall_givenBy (G := G) (d := 2) (Nat.le_refl _) C I (1 : Int32) (I 13 x1.toNatClampNeg) (M_Vkind C (hT C (I 11 x1.toNatClampNeg).toNatClampNeg)) (I (hT C (I 11 x1.toNatClampNeg).toNatClampNeg) 6) (0 : Int32) p3 hp3) (by omega) rfl (rest := []) rfl (Nat.le_of_ble_eq_true rfl) ⟨Nat.le_of_ble_eq_true rfl, Nat.le_of_ble_eq_true rfl⟩ ?_
  show _ → kW G X m_Wall_weightOf C p3.2 0 0 32 [.ref 1, .int x1, .ref (hT C (I 11 x1.toNatClampNeg).toNatClampNeg)] [.int p3.1]
  intro h; have h := Option.some.inj h; subst h
  exact kx_iret hX hE ok_Wall_weightOf (nx := 33) rfl rfl ⟨Nat.le_of_ble_eq_true rfl, Nat.le_of_ble_eq_true rfl⟩
def M_H_ofLook (C : HC) (I : HI) (x1 : Int32) (x2 : Int32) : Option (Int32 × HI) := if (M_Wall_hasLook I x1) = (0 : Int32) then (Option.bind (M_H_error I (1 : Int32)) fun p2 => some (p2.1, p2.2)) else (if x2 = (0 : Int32) then (grd (bnd x1 12) (some ((I 11 x1.toNatClampNeg), I))) else (if x2 = (1 : Int32) then (grd (bnd x1 12) (some ((I 12 x1.toNatClampNeg), I))) else (if x2 = (2 : Int32) then (grd (bnd x1 12) (some ((I 13 x1.toNatClampNeg), I))) else (if x2 = (3 : Int32) then (Option.bind (M_Wall_weightOf C I x1) fun p10 => some (p10.1, p10.2)) else (Option.bind (M_H_error I (1 : Int32)) fun p11 => some (p11.1, p11.2))))))
theorem s_H_ofLook {G : xG} {d : Nat} (hd : 4 ≤ d) (C : HC) (I : HI) (x1 : Int32) (x2 : Int32)  (r : Int32 × HI) : M_H_ofLook C I x1 x2 = some r → kM G d m_H_ofLook [.ref 0, .int x1, .int x2] C I 0 0 (some (.int r.1)) C r.2 := by
  unfold M_H_ofLook
  refine kM.of (by decide +kernel) (Nat.le_of_ble_eq_true rfl) (lv := [.ref 0, .int x1, .int x2]) rfl (fun X hX hE => ?_)
  refine kx_go 1 (pc' := 1) (lv' := [.ref 0, .int x1, .int x2]) (st' := [.ref 0]) hX ok_H_ofLook rfl ?_
  refine kx_getp hX ok_H_ofLook rfl (q := 1) (nx := 4) rfl ?_
  refine kx_go 1 (pc' := 5) (lv' := [.ref 0, .int x1, .int x2]) (st' := [.int x1, .ref 1]) hX ok_H_ofLook rfl ?_
  refine kx_V (r := 1) (as := [.int x1]) (by decide) hX ok_H_ofLook (nx := 8) rfl l_H_123 (by decide) rfl (fun _ => s_Wall_hasLook (G := G) (d := 0) (Nat.le_refl _) C I x1 _ rfl) (by omega) rfl (rest := []) rfl (Nat.le_of_ble_eq_true rfl) ⟨Nat.le_of_ble_eq_true rfl, Nat.le_of_ble_eq_true rfl⟩ ?_
  show _ → kW G X m_H_ofLook C I 0 0 8 [.ref 0, .int x1, .int x2] [.int (M_Wall_hasLook I x1)]
  refine kx_go 1 (pc' := if (M_Wall_hasLook I x1) = (0 : Int32) then 11 else 17) (lv' := [.ref 0, .int x1, .int x2]) (st' := []) hX ok_H_ofLook rfl ?_
  refine kx_ite (fun c1 => ?_) (fun c1 => ?_)
  · refine kx_go 2 (pc' := 13) (lv' := [.ref 0, .int x1, .int x2]) (st' := [.int (1 : Int32), .ref 0]) hX ok_H_ofLook rfl ?_
    refine kx_bind (fun p2 hp2 => ?_)
    refine kx_V (r := 0) (as := [.int (1 : Int32)]) (by decide) hX ok_H_ofLook (nx := 16) rfl l_H_60 (by decide) rfl (fun _ => s_H_error (G := G) (d := 0) (Nat.le_refl _) C I (1 : Int32) p2 hp2) (by omega) rfl (rest := []) rfl (Nat.le_of_ble_eq_true rfl) ⟨Nat.le_of_ble_eq_true rfl, Nat.le_of_ble_eq_true rfl⟩ ?_
    show _ → kW G X m_H_ofLook C p2.2 0 0 16 [.ref 0, .int x1, .int x2] [.int p2.1]
    intro h; have h := Option.some.inj h; subst h
    exact kx_iret hX hE ok_H_ofLook (nx := 17) rfl rfl ⟨Nat.le_of_ble_eq_true rfl, Nat.le_of_ble_eq_true rfl⟩
  · refine kx_go 2 (pc' := xtsw x2 [((0 : Int32), 48), ((1 : Int32), 58), ((2 : Int32), 68), ((3 : Int32), 78)] 87) (lv' := [.ref 0, .int x1, .int x2]) (st' := []) hX ok_H_ofLook rfl ?_
    refine kx_sw (fun c3 => ?_) (fun c3 => ?_)
    · refine kx_go 1 (pc' := 49) (lv' := [.ref 0, .int x1, .int x2]) (st' := [.ref 0]) hX ok_H_ofLook rfl ?_
      refine kx_getp hX ok_H_ofLook rfl (q := 1) (nx := 52) rfl ?_
      refine kx_getp hX ok_H_ofLook rfl (q := 11) (nx := 55) rfl ?_
      refine kx_go 1 (pc' := 56) (lv' := [.ref 0, .int x1, .int x2]) (st' := [.int x1, .ref 11]) hX ok_H_ofLook rfl ?_
      refine kx_iald hX ok_H_ofLook (w := 12) (nx := 57) rfl (fun b4 => ?_)
      intro h; have h := Option.some.inj h; subst h
      exact kx_iret hX hE ok_H_ofLook (nx := 58) rfl rfl ⟨Nat.le_of_ble_eq_true rfl, Nat.le_of_ble_eq_true rfl⟩
    · refine kx_sw (fun c5 => ?_) (fun c5 => ?_)
      · refine kx_go 1 (pc' := 59) (lv' := [.ref 0, .int x1, .int x2]) (st' := [.ref 0]) hX ok_H_ofLook rfl ?_
        refine kx_getp hX ok_H_ofLook rfl (q := 1) (nx := 62) rfl ?_
        refine kx_getp hX ok_H_ofLook rfl (q := 12) (nx := 65) rfl ?_
        refine kx_go 1 (pc' := 66) (lv' := [.ref 0, .int x1, .int x2]) (st' := [.int x1, .ref 12]) hX ok_H_ofLook rfl ?_
        refine kx_iald hX ok_H_ofLook (w := 12) (nx := 67) rfl (fun b6 => ?_)
        intro h; have h := Option.some.inj h; subst h
        exact kx_iret hX hE ok_H_ofLook (nx := 68) rfl rfl ⟨Nat.le_of_ble_eq_true rfl, Nat.le_of_ble_eq_true rfl⟩
      · refine kx_sw (fun c7 => ?_) (fun c7 => ?_)
        · refine kx_go 1 (pc' := 69) (lv' := [.ref 0, .int x1, .int x2]) (st' := [.ref 0]) hX ok_H_ofLook rfl ?_
          refine kx_getp hX ok_H_ofLook rfl (q := 1) (nx := 72) rfl ?_
          refine kx_getp hX ok_H_ofLook rfl (q := 13) (nx := 75) rfl ?_
          refine kx_go 1 (pc' := 76) (lv' := [.ref 0, .int x1, .int x2]) (st' := [.int x1, .ref 13]) hX ok_H_ofLook rfl ?_
          refine kx_iald hX ok_H_ofLook (w := 12) (nx := 77) rfl (fun b8 => ?_)
          intro h; have h := Option.some.inj h; subst h
          exact kx_iret hX hE ok_H_ofLook (nx := 78) rfl rfl ⟨Nat.le_of_ble_eq_true rfl, Nat.le_of_ble_eq_true rfl⟩
        · refine kx_sw (fun c9 => ?_) (fun c9 => ?_)
          · refine kx_go 1 (pc' := 79) (lv' := [.ref 0, .int x1, .int x2]) (st' := [.ref 0]) hX ok_H_ofLook rfl ?_
            refine kx_getp hX ok_H_ofLook rfl (q := 1) (nx := 82) rfl ?_
            refine kx_go 1 (pc' := 83) (lv' := [.ref 0, .int x1, .int x2]) (st' := [.int x1, .ref 1]) hX ok_H_ofLook rfl ?_
            refine kx_bind (fun p10 hp10 => ?_)
            refine kx_V (r := 1) (as := [.int x1]) (by decide) hX ok_H_ofLook (nx := 86) rfl l_H_135 (by decide) rfl (fun _ => s_Wall_weightOf (G := G) (d := 3) (Nat.le_refl _) C I x1 p10 hp10) (by omega) rfl (rest := []) rfl (Nat.le_of_ble_eq_true rfl) ⟨Nat.le_of_ble_eq_true rfl, Nat.le_of_ble_eq_true rfl⟩ ?_
            show _ → kW G X m_H_ofLook C p10.2 0 0 86 [.ref 0, .int x1, .int x2] [.int p10.1]
            intro h; have h := Option.some.inj h; subst h
            exact kx_iret hX hE ok_H_ofLook (nx := 87) rfl rfl ⟨Nat.le_of_ble_eq_true rfl, Nat.le_of_ble_eq_true rfl⟩
          · refine kx_sw0 ?_
            refine kx_go 2 (pc' := 89) (lv' := [.ref 0, .int x1, .int x2]) (st' := [.int (1 : Int32), .ref 0]) hX ok_H_ofLook rfl ?_
            refine kx_bind (fun p11 hp11 => ?_)
            refine kx_V (r := 0) (as := [.int (1 : Int32)]) (by decide) hX ok_H_ofLook (nx := 92) rfl l_H_60 (by decide) rfl (fun _ => s_H_error (G := G) (d := 0) (Nat.le_refl _) C I (1 : Int32) p11 hp11) (by omega) rfl (rest := []) rfl (Nat.le_of_ble_eq_true rfl) ⟨Nat.le_of_ble_eq_true rfl, Nat.le_of_ble_eq_true rfl⟩ ?_
            show _ → kW G X m_H_ofLook C p11.2 0 0 92 [.ref 0, .int x1, .int x2] [.int p11.1]
            intro h; have h := Option.some.inj h; subst h
            exact kx_iret hX hE ok_H_ofLook (nx := 93) rfl rfl ⟨Nat.le_of_ble_eq_true rfl, Nat.le_of_ble_eq_true rfl⟩
def M_H_see (I : HI) (x1 : Int32) (x2 : Int32) : Option (Int32 × HI) := if (M_Wall_hasLook I x1) = (0 : Int32) then (Option.bind (M_H_error I (1 : Int32)) fun p2 => some (p2.1, p2.2)) else (if x2 < (1 : Int32) then (Option.bind (M_H_error I (1 : Int32)) fun p4 => some (p4.1, p4.2)) else (if x2 ≤ (99 : Int32) then (grd (bnd x1 12) (lt (xu I 13 x1.toNatClampNeg x2) fun J7 => some ((I 13 x1.toNatClampNeg), J7))) else (Option.bind (M_H_error I (1 : Int32)) fun p8 => some (p8.1, p8.2))))
theorem s_H_see {G : xG} {d : Nat} (hd : 1 ≤ d) (C : HC) (I : HI) (x1 : Int32) (x2 : Int32)  (r : Int32 × HI) : M_H_see I x1 x2 = some r → kM G d m_H_see [.ref 0, .int x1, .int x2] C I 0 0 (some (.int r.1)) C r.2 := by
  unfold M_H_see
  refine kM.of (by decide +kernel) (Nat.le_of_ble_eq_true rfl) (lv := [.ref 0, .int x1, .int x2, .null]) rfl (fun X hX hE => ?_)
  refine kx_go 1 (pc' := 1) (lv' := [.ref 0, .int x1, .int x2, .null]) (st' := [.ref 0]) hX ok_H_see rfl ?_
  refine kx_getp hX ok_H_see rfl (q := 1) (nx := 4) rfl ?_
  refine kx_go 1 (pc' := 5) (lv' := [.ref 0, .int x1, .int x2, .null]) (st' := [.int x1, .ref 1]) hX ok_H_see rfl ?_
  refine kx_V (r := 1) (as := [.int x1]) (by decide) hX ok_H_see (nx := 8) rfl l_H_123 (by decide) rfl (fun _ => s_Wall_hasLook (G := G) (d := 0) (Nat.le_refl _) C I x1 _ rfl) (by omega) rfl (rest := []) rfl (Nat.le_of_ble_eq_true rfl) ⟨Nat.le_of_ble_eq_true rfl, Nat.le_of_ble_eq_true rfl⟩ ?_
  show _ → kW G X m_H_see C I 0 0 8 [.ref 0, .int x1, .int x2, .null] [.int (M_Wall_hasLook I x1)]
  refine kx_go 1 (pc' := if (M_Wall_hasLook I x1) = (0 : Int32) then 22 else 11) (lv' := [.ref 0, .int x1, .int x2, .null]) (st' := []) hX ok_H_see rfl ?_
  refine kx_ite (fun c1 => ?_) (fun c1 => ?_)
  · refine kx_go 2 (pc' := 24) (lv' := [.ref 0, .int x1, .int x2, .null]) (st' := [.int (1 : Int32), .ref 0]) hX ok_H_see rfl ?_
    refine kx_bind (fun p2 hp2 => ?_)
    refine kx_V (r := 0) (as := [.int (1 : Int32)]) (by decide) hX ok_H_see (nx := 27) rfl l_H_60 (by decide) rfl (fun _ => s_H_error (G := G) (d := 0) (Nat.le_refl _) C I (1 : Int32) p2 hp2) (by omega) rfl (rest := []) rfl (Nat.le_of_ble_eq_true rfl) ⟨Nat.le_of_ble_eq_true rfl, Nat.le_of_ble_eq_true rfl⟩ ?_
    show _ → kW G X m_H_see C p2.2 0 0 27 [.ref 0, .int x1, .int x2, .null] [.int p2.1]
    intro h; have h := Option.some.inj h; subst h
    exact kx_iret hX hE ok_H_see (nx := 28) rfl rfl ⟨Nat.le_of_ble_eq_true rfl, Nat.le_of_ble_eq_true rfl⟩
  · refine kx_go 3 (pc' := if x2 < (1 : Int32) then 22 else 16) (lv' := [.ref 0, .int x1, .int x2, .null]) (st' := []) hX ok_H_see rfl ?_
    refine kx_ite (fun c3 => ?_) (fun c3 => ?_)
    · refine kx_go 2 (pc' := 24) (lv' := [.ref 0, .int x1, .int x2, .null]) (st' := [.int (1 : Int32), .ref 0]) hX ok_H_see rfl ?_
      refine kx_bind (fun p4 hp4 => ?_)
      refine kx_V (r := 0) (as := [.int (1 : Int32)]) (by decide) hX ok_H_see (nx := 27) rfl l_H_60 (by decide) rfl (fun _ => s_H_error (G := G) (d := 0) (Nat.le_refl _) C I (1 : Int32) p4 hp4) (by omega) rfl (rest := []) rfl (Nat.le_of_ble_eq_true rfl) ⟨Nat.le_of_ble_eq_true rfl, Nat.le_of_ble_eq_true rfl⟩ ?_
      show _ → kW G X m_H_see C p4.2 0 0 27 [.ref 0, .int x1, .int x2, .null] [.int p4.1]
      intro h; have h := Option.some.inj h; subst h
      exact kx_iret hX hE ok_H_see (nx := 28) rfl rfl ⟨Nat.le_of_ble_eq_true rfl, Nat.le_of_ble_eq_true rfl⟩
    · refine kx_go 3 (pc' := if x2 ≤ (99 : Int32) then 28 else 22) (lv' := [.ref 0, .int x1, .int x2, .null]) (st' := []) hX ok_H_see rfl ?_
      refine kx_ite (fun c5 => ?_) (fun c5 => ?_)
      · refine kx_go 1 (pc' := 29) (lv' := [.ref 0, .int x1, .int x2, .null]) (st' := [.ref 0]) hX ok_H_see rfl ?_
        refine kx_getp hX ok_H_see rfl (q := 1) (nx := 32) rfl ?_
        refine kx_getp hX ok_H_see rfl (q := 13) (nx := 35) rfl ?_
        refine kx_go 1 (pc' := 36) (lv' := [.ref 0, .int x1, .int x2, .null]) (st' := [.int x1, .ref 13]) hX ok_H_see rfl ?_
        refine kx_iald hX ok_H_see (w := 12) (nx := 37) rfl (fun b6 => ?_)
        refine kx_go 2 (pc' := 39) (lv' := [.ref 0, .int x1, .int x2, .int (I 13 x1.toNatClampNeg)]) (st' := [.ref 0]) hX ok_H_see rfl ?_
        refine kx_getp hX ok_H_see rfl (q := 1) (nx := 42) rfl ?_
        refine kx_getp hX ok_H_see rfl (q := 13) (nx := 45) rfl ?_
        refine kx_go 2 (pc' := 47) (lv' := [.ref 0, .int x1, .int x2, .int (I 13 x1.toNatClampNeg)]) (st' := [.int x2, .int x1, .ref 13]) hX ok_H_see rfl ?_
        refine kx_iastc hX ok_H_see (w := 12) (nx := 48) rfl b6 (k := x1.toNatClampNeg) rfl ?_
        refine kx_lt (Q := fun J7 => kW G X m_H_see C J7 0 0 48 [.ref 0, .int x1, .int x2, .int (I 13 x1.toNatClampNeg)] []) (fun J7 eJ7 => ?_)
        refine kx_go 1 (pc' := 49) (lv' := [.ref 0, .int x1, .int x2, .int (I 13 x1.toNatClampNeg)]) (st' := [.int (I 13 x1.toNatClampNeg)]) hX ok_H_see rfl ?_
        intro h; have h := Option.some.inj h; subst h
        exact kx_iret hX hE ok_H_see (nx := 50) rfl rfl ⟨Nat.le_of_ble_eq_true rfl, Nat.le_of_ble_eq_true rfl⟩
      · refine kx_go 2 (pc' := 24) (lv' := [.ref 0, .int x1, .int x2, .null]) (st' := [.int (1 : Int32), .ref 0]) hX ok_H_see rfl ?_
        refine kx_bind (fun p8 hp8 => ?_)
        refine kx_V (r := 0) (as := [.int (1 : Int32)]) (by decide) hX ok_H_see (nx := 27) rfl l_H_60 (by decide) rfl (fun _ => s_H_error (G := G) (d := 0) (Nat.le_refl _) C I (1 : Int32) p8 hp8) (by omega) rfl (rest := []) rfl (Nat.le_of_ble_eq_true rfl) ⟨Nat.le_of_ble_eq_true rfl, Nat.le_of_ble_eq_true rfl⟩ ?_
        show _ → kW G X m_H_see C p8.2 0 0 27 [.ref 0, .int x1, .int x2, .null] [.int p8.1]
        intro h; have h := Option.some.inj h; subst h
        exact kx_iret hX hE ok_H_see (nx := 28) rfl rfl ⟨Nat.le_of_ble_eq_true rfl, Nat.le_of_ble_eq_true rfl⟩
def M_H_forget (I : HI) : Option (Int32 × HI) := if (I 1 5) = (0 : Int32) then (Option.bind (M_H_error I (3 : Int32)) fun p2 => some (p2.1, p2.2)) else (lt (xu I 1 5 ((I 1 5) - (1 : Int32))) fun J3 => some ((J3 1 5), J3))
theorem s_H_forget {G : xG} {d : Nat} (hd : 1 ≤ d) (C : HC) (I : HI)   (r : Int32 × HI) : M_H_forget I = some r → kM G d m_H_forget [.ref 0] C I 0 0 (some (.int r.1)) C r.2 := by
  unfold M_H_forget
  refine kM.of (by decide +kernel) (Nat.le_of_ble_eq_true rfl) (lv := [.ref 0]) rfl (fun X hX hE => ?_)
  refine kx_go 1 (pc' := 1) (lv' := [.ref 0]) (st' := [.ref 0]) hX ok_H_forget rfl ?_
  refine kx_getp hX ok_H_forget rfl (q := 1) (nx := 4) rfl ?_
  refine kx_geti hX ok_H_forget rfl (k := 5) (nx := 7) rfl ?_
  refine kx_go 1 (pc' := if (I 1 5) = (0 : Int32) then 10 else 16) (lv' := [.ref 0]) (st' := []) hX ok_H_forget rfl ?_
  refine kx_ite (fun c1 => ?_) (fun c1 => ?_)
  · refine kx_go 2 (pc' := 12) (lv' := [.ref 0]) (st' := [.int (3 : Int32), .ref 0]) hX ok_H_forget rfl ?_
    refine kx_bind (fun p2 hp2 => ?_)
    refine kx_V (r := 0) (as := [.int (3 : Int32)]) (by decide) hX ok_H_forget (nx := 15) rfl l_H_60 (by decide) rfl (fun _ => s_H_error (G := G) (d := 0) (Nat.le_refl _) C I (3 : Int32) p2 hp2) (by omega) rfl (rest := []) rfl (Nat.le_of_ble_eq_true rfl) ⟨Nat.le_of_ble_eq_true rfl, Nat.le_of_ble_eq_true rfl⟩ ?_
    show _ → kW G X m_H_forget C p2.2 0 0 15 [.ref 0] [.int p2.1]
    intro h; have h := Option.some.inj h; subst h
    exact kx_iret hX hE ok_H_forget (nx := 16) rfl rfl ⟨Nat.le_of_ble_eq_true rfl, Nat.le_of_ble_eq_true rfl⟩
  · refine kx_go 1 (pc' := 17) (lv' := [.ref 0]) (st' := [.ref 0]) hX ok_H_forget rfl ?_
    refine kx_getp hX ok_H_forget rfl (q := 1) (nx := 20) rfl ?_
    refine kx_go 1 (pc' := 21) (lv' := [.ref 0]) (st' := [.ref 1, .ref 1]) hX ok_H_forget rfl ?_
    refine kx_geti hX ok_H_forget rfl (k := 5) (nx := 24) rfl ?_
    refine kx_go 2 (pc' := 26) (lv' := [.ref 0]) (st' := [.int ((I 1 5) - (1 : Int32)), .ref 1]) hX ok_H_forget rfl ?_
    refine kx_puti hX ok_H_forget rfl (k := 5) (nx := 29) rfl rfl ?_
    refine kx_lt (Q := fun J3 => kW G X m_H_forget C J3 0 0 29 [.ref 0] []) (fun J3 eJ3 => ?_)
    refine kx_go 1 (pc' := 30) (lv' := [.ref 0]) (st' := [.ref 0]) hX ok_H_forget rfl ?_
    refine kx_getp hX ok_H_forget rfl (q := 1) (nx := 33) rfl ?_
    refine kx_geti hX ok_H_forget rfl (k := 5) (nx := 36) rfl ?_
    intro h; have h := Option.some.inj h; subst h
    exact kx_iret hX hE ok_H_forget (nx := 37) rfl rfl ⟨Nat.le_of_ble_eq_true rfl, Nat.le_of_ble_eq_true rfl⟩
def L_Wall_addBytes_6 (x3 : Int32) : Nat → Int64 → Int32 → HI → Option (HI)
  | 0, _, _, _ => none
  | f + 1, w4, x6, I => if x3 ≤ x6 then (some I) else (grd (bnd (I 1 7) 50) (lt (xu I 14 (I 1 7).toNatClampNeg ((w4 &&& (Int64.ofNat 255)).toInt32)) fun J3 => lt (xu J3 1 7 ((J3 1 7) + (1 : Int32))) fun J4 => L_Wall_addBytes_6 x3 f (lush w4 (8 : Int32)) (x6 + (1 : Int32)) J4))
theorem s_L_Wall_addBytes_6 {G : xG} {X : xC} {d : Nat} (hd : 0 ≤ d) (hX : xAmb G X m_Wall_addBytes d 0 0)  (C : HC) (x3 : Int32) : ∀ (f : Nat) (w4 : Int64) (x6 : Int32) (I : HI) (r : HI), (kW G X m_Wall_addBytes C r 0 0 51 [.null, .null, .null, .null, .null, .null, .null] []) → L_Wall_addBytes_6 x3 f w4 x6 I = some r → kW G X m_Wall_addBytes C I 0 0 6 [.ref 1, .null, .null, .int x3, .long w4, .null, .int x6] [] := by
  intro f
  induction f with
  | zero => intro w4 x6 I r hk h; rw [L_Wall_addBytes_6] at h; cases h
  | succ f ih =>
    intro w4 x6 I r hk
    rw [L_Wall_addBytes_6]
    refine kx_go 3 (pc' := if x3 ≤ x6 then 51 else 12) (lv' := [.ref 1, .null, .null, .int x3, .long w4, .null, .int x6]) (st' := []) hX ok_Wall_addBytes rfl ?_
    refine kx_ite (fun c1 => ?_) (fun c1 => ?_)
    · refine kx_weak (lv' := [.null, .null, .null, .null, .null, .null, .null]) (by simp [xsub]) ?_
      intro h; have h := Option.some.inj h; subst h
      exact hk
    · refine kx_go 1 (pc' := 13) (lv' := [.ref 1, .null, .null, .int x3, .long w4, .null, .int x6]) (st' := [.ref 1]) hX ok_Wall_addBytes rfl ?_
      refine kx_getp hX ok_Wall_addBytes rfl (q := 14) (nx := 16) rfl ?_
      refine kx_go 1 (pc' := 17) (lv' := [.ref 1, .null, .null, .int x3, .long w4, .null, .int x6]) (st' := [.ref 1, .ref 14]) hX ok_Wall_addBytes rfl ?_
      refine kx_geti hX ok_Wall_addBytes rfl (k := 7) (nx := 20) rfl ?_
      refine kx_go 4 (pc' := 27) (lv' := [.ref 1, .null, .null, .int x3, .long w4, .null, .int x6]) (st' := [.int ((w4 &&& (Int64.ofNat 255)).toInt32), .int (I 1 7), .ref 14]) hX ok_Wall_addBytes rfl ?_
      refine kx_iast hX ok_Wall_addBytes (w := 50) (nx := 28) rfl (fun b2 => ?_)
      refine kx_lt (Q := fun J3 => kW G X m_Wall_addBytes C J3 0 0 28 [.ref 1, .null, .null, .int x3, .long w4, .null, .int x6] []) (fun J3 eJ3 => ?_)
      refine kx_go 2 (pc' := 30) (lv' := [.ref 1, .null, .null, .int x3, .long w4, .null, .int x6]) (st' := [.ref 1, .ref 1]) hX ok_Wall_addBytes rfl ?_
      refine kx_geti hX ok_Wall_addBytes rfl (k := 7) (nx := 33) rfl ?_
      refine kx_go 2 (pc' := 35) (lv' := [.ref 1, .null, .null, .int x3, .long w4, .null, .int x6]) (st' := [.int ((J3 1 7) + (1 : Int32)), .ref 1]) hX ok_Wall_addBytes rfl ?_
      refine kx_puti hX ok_Wall_addBytes rfl (k := 7) (nx := 38) rfl rfl ?_
      refine kx_lt (Q := fun J4 => kW G X m_Wall_addBytes C J4 0 0 38 [.ref 1, .null, .null, .int x3, .long w4, .null, .int x6] []) (fun J4 eJ4 => ?_)
      refine kx_go 6 (pc' := 6) (lv' := [.ref 1, .null, .null, .int x3, .long (lush w4 (8 : Int32)), .null, .int (x6 + (1 : Int32))]) (st' := []) hX ok_Wall_addBytes rfl ?_
      exact fun h => ih (lush w4 (8 : Int32)) (x6 + (1 : Int32)) J4 r hk h
def M_Wall_addBytes (I : HI) (w1 : Int64) (x3 : Int32) : Option (HI) := Option.bind (L_Wall_addBytes_6 x3 1000 w1 (0 : Int32) I) fun p1 => some p1
theorem s_Wall_addBytes {G : xG} {d : Nat} (hd : 0 ≤ d) (C : HC) (I : HI) (w1 : Int64) (x3 : Int32)  (r : HI) : M_Wall_addBytes I w1 x3 = some r → kM G d m_Wall_addBytes [.ref 1, .long w1, .int x3] C I 0 0 none C r := by
  unfold M_Wall_addBytes
  refine kM.of (by decide +kernel) (Nat.le_of_ble_eq_true rfl) (lv := [.ref 1, .long w1, .null, .int x3, .null, .null, .null]) rfl (fun X hX hE => ?_)
  refine kx_go 4 (pc' := 6) (lv' := [.ref 1, .long w1, .null, .int x3, .long w1, .null, .int (0 : Int32)]) (st' := []) hX ok_Wall_addBytes rfl ?_
  refine kx_weak (lv' := [.ref 1, .null, .null, .int x3, .long w1, .null, .int (0 : Int32)]) (by simp [xsub]) ?_
  refine kx_bind (fun p1 hp1 => ?_)
  refine kx_via (fun hk => s_L_Wall_addBytes_6 (G := G) (X := X) (by omega) hX C x3 1000 w1 (0 : Int32) I p1 hk hp1) ?_
  intro h; have h := Option.some.inj h; subst h
  exact kx_vret hX hE ok_Wall_addBytes (nx := 52) rfl rfl ⟨Nat.le_of_ble_eq_true rfl, Nat.le_of_ble_eq_true rfl⟩
def M_H_feed (I : HI) (w1 : Int64) (x3 : Int32) : Option (Int32 × HI) := if x3 < (1 : Int32) then (Option.bind (M_H_error I (1 : Int32)) fun p2 => some (p2.1, p2.2)) else (if x3 ≤ (8 : Int32) then (if ((I 1 7) + x3) ≤ (50 : Int32) then (Option.bind (M_Wall_addBytes I w1 x3) fun p5 => some ((p5 1 7), p5)) else (Option.bind (M_H_error I (4 : Int32)) fun p6 => some (p6.1, p6.2))) else (Option.bind (M_H_error I (1 : Int32)) fun p7 => some (p7.1, p7.2)))
theorem s_H_feed {G : xG} {d : Nat} (hd : 1 ≤ d) (C : HC) (I : HI) (w1 : Int64) (x3 : Int32)  (r : Int32 × HI) : M_H_feed I w1 x3 = some r → kM G d m_H_feed [.ref 0, .long w1, .int x3] C I 0 0 (some (.int r.1)) C r.2 := by
  unfold M_H_feed
  refine kM.of (by decide +kernel) (Nat.le_of_ble_eq_true rfl) (lv := [.ref 0, .long w1, .null, .int x3]) rfl (fun X hX hE => ?_)
  refine kx_go 3 (pc' := if x3 < (1 : Int32) then 11 else 5) (lv' := [.ref 0, .long w1, .null, .int x3]) (st' := []) hX ok_H_feed rfl ?_
  refine kx_ite (fun c1 => ?_) (fun c1 => ?_)
  · refine kx_go 2 (pc' := 13) (lv' := [.ref 0, .long w1, .null, .int x3]) (st' := [.int (1 : Int32), .ref 0]) hX ok_H_feed rfl ?_
    refine kx_bind (fun p2 hp2 => ?_)
    refine kx_V (r := 0) (as := [.int (1 : Int32)]) (by decide) hX ok_H_feed (nx := 16) rfl l_H_60 (by decide) rfl (fun _ => s_H_error (G := G) (d := 0) (Nat.le_refl _) C I (1 : Int32) p2 hp2) (by omega) rfl (rest := []) rfl (Nat.le_of_ble_eq_true rfl) ⟨Nat.le_of_ble_eq_true rfl, Nat.le_of_ble_eq_true rfl⟩ ?_
    show _ → kW G X m_H_feed C p2.2 0 0 16 [.ref 0, .long w1, .null, .int x3] [.int p2.1]
    intro h; have h := Option.some.inj h; subst h
    exact kx_iret hX hE ok_H_feed (nx := 17) rfl rfl ⟨Nat.le_of_ble_eq_true rfl, Nat.le_of_ble_eq_true rfl⟩
  · refine kx_go 3 (pc' := if x3 ≤ (8 : Int32) then 17 else 11) (lv' := [.ref 0, .long w1, .null, .int x3]) (st' := []) hX ok_H_feed rfl ?_
    refine kx_ite (fun c3 => ?_) (fun c3 => ?_)
    · refine kx_go 1 (pc' := 18) (lv' := [.ref 0, .long w1, .null, .int x3]) (st' := [.ref 0]) hX ok_H_feed rfl ?_
      refine kx_getp hX ok_H_feed rfl (q := 1) (nx := 21) rfl ?_
      refine kx_geti hX ok_H_feed rfl (k := 7) (nx := 24) rfl ?_
      refine kx_go 4 (pc' := if ((I 1 7) + x3) ≤ (50 : Int32) then 37 else 31) (lv' := [.ref 0, .long w1, .null, .int x3]) (st' := []) hX ok_H_feed rfl ?_
      refine kx_ite (fun c4 => ?_) (fun c4 => ?_)
      · refine kx_go 1 (pc' := 38) (lv' := [.ref 0, .long w1, .null, .int x3]) (st' := [.ref 0]) hX ok_H_feed rfl ?_
        refine kx_getp hX ok_H_feed rfl (q := 1) (nx := 41) rfl ?_
        refine kx_go 2 (pc' := 43) (lv' := [.ref 0, .long w1, .null, .int x3]) (st' := [.int x3, .long w1, .ref 1]) hX ok_H_feed rfl ?_
        refine kx_bind (fun p5 hp5 => ?_)
        refine kx_V (r := 1) (as := [.long w1, .int x3]) (by decide) hX ok_H_feed (nx := 46) rfl l_H_141 (by decide) rfl (fun _ => s_Wall_addBytes (G := G) (d := 0) (Nat.le_refl _) C I w1 x3 p5 hp5) (by omega) rfl (rest := []) rfl (Nat.le_of_ble_eq_true rfl) ⟨Nat.le_of_ble_eq_true rfl, Nat.le_of_ble_eq_true rfl⟩ ?_
        show _ → kW G X m_H_feed C p5 0 0 46 [.ref 0, .long w1, .null, .int x3] []
        refine kx_go 1 (pc' := 47) (lv' := [.ref 0, .long w1, .null, .int x3]) (st' := [.ref 0]) hX ok_H_feed rfl ?_
        refine kx_getp hX ok_H_feed rfl (q := 1) (nx := 50) rfl ?_
        refine kx_geti hX ok_H_feed rfl (k := 7) (nx := 53) rfl ?_
        intro h; have h := Option.some.inj h; subst h
        exact kx_iret hX hE ok_H_feed (nx := 54) rfl rfl ⟨Nat.le_of_ble_eq_true rfl, Nat.le_of_ble_eq_true rfl⟩
      · refine kx_go 2 (pc' := 33) (lv' := [.ref 0, .long w1, .null, .int x3]) (st' := [.int (4 : Int32), .ref 0]) hX ok_H_feed rfl ?_
        refine kx_bind (fun p6 hp6 => ?_)
        refine kx_V (r := 0) (as := [.int (4 : Int32)]) (by decide) hX ok_H_feed (nx := 36) rfl l_H_60 (by decide) rfl (fun _ => s_H_error (G := G) (d := 0) (Nat.le_refl _) C I (4 : Int32) p6 hp6) (by omega) rfl (rest := []) rfl (Nat.le_of_ble_eq_true rfl) ⟨Nat.le_of_ble_eq_true rfl, Nat.le_of_ble_eq_true rfl⟩ ?_
        show _ → kW G X m_H_feed C p6.2 0 0 36 [.ref 0, .long w1, .null, .int x3] [.int p6.1]
        intro h; have h := Option.some.inj h; subst h
        exact kx_iret hX hE ok_H_feed (nx := 37) rfl rfl ⟨Nat.le_of_ble_eq_true rfl, Nat.le_of_ble_eq_true rfl⟩
    · refine kx_go 2 (pc' := 13) (lv' := [.ref 0, .long w1, .null, .int x3]) (st' := [.int (1 : Int32), .ref 0]) hX ok_H_feed rfl ?_
      refine kx_bind (fun p7 hp7 => ?_)
      refine kx_V (r := 0) (as := [.int (1 : Int32)]) (by decide) hX ok_H_feed (nx := 16) rfl l_H_60 (by decide) rfl (fun _ => s_H_error (G := G) (d := 0) (Nat.le_refl _) C I (1 : Int32) p7 hp7) (by omega) rfl (rest := []) rfl (Nat.le_of_ble_eq_true rfl) ⟨Nat.le_of_ble_eq_true rfl, Nat.le_of_ble_eq_true rfl⟩ ?_
      show _ → kW G X m_H_feed C p7.2 0 0 16 [.ref 0, .long w1, .null, .int x3] [.int p7.1]
      intro h; have h := Option.some.inj h; subst h
      exact kx_iret hX hE ok_H_feed (nx := 17) rfl rfl ⟨Nat.le_of_ble_eq_true rfl, Nat.le_of_ble_eq_true rfl⟩
def M_Text_read (C : HC) (I : HI) (x2 : Int32) (n3 : Nat) : Option (Int32 × HC × HI) := lt (xu I 26 5 x2) fun J1 => lt (xu J1 26 6 (0 : Int32)) fun J2 => lt (xu J2 26 2 (0 : Int32)) fun J3 => Option.bind (M_Text_readLevel n3 (U_rl n3 60) (U_rf n3 60) J3 (0 : Int32) (0 : Int32)) fun p4 => if p4.1 = (0 : Int32) then (some ((p4.2 26 6), (cD C 14 n3), p4.2)) else (if (p4.2 26 6) = (p4.2 26 5) then (some ((-1 : Int32), (cD C 14 n3), p4.2)) else (some ((p4.2 26 6), (cD C 14 n3), p4.2)))
theorem s_Text_read {G : xG} {d : Nat} (hd : 542 ≤ d) (C : HC) (I : HI) (x2 : Int32) (n3 : Nat) (hn3 : n3 = 1000003 ∨ n3 = 1000004) (r : Int32 × HC × HI) : M_Text_read C I x2 n3 = some r → kM G d m_Text_read [.ref 26, .ref 14, .int x2, .ref n3] C I 0 0 (some (.int r.1)) r.2.1 r.2.2 := by
  unfold M_Text_read
  refine kM.of (by decide +kernel) (Nat.le_of_ble_eq_true rfl) (lv := [.ref 26, .ref 14, .int x2, .ref n3]) rfl (fun X hX hE => ?_)
  refine kx_go 2 (pc' := 2) (lv' := [.ref 26, .ref 14, .int x2, .ref n3]) (st' := [.ref 14, .ref 26]) hX ok_Text_read rfl ?_
  refine kx_putdt hX ok_Text_read rfl (nx := 5) rfl ?_
  refine kx_go 2 (pc' := 7) (lv' := [.ref 26, .ref 14, .int x2, .ref n3]) (st' := [.int x2, .ref 26]) hX ok_Text_read rfl ?_
  refine kx_puti hX ok_Text_read rfl (k := 5) (nx := 10) rfl rfl ?_
  refine kx_lt (Q := fun J1 => kW G X m_Text_read (cD C 14 (hdn C)) J1 0 0 10 [.ref 26, .ref 14, .int x2, .ref n3] []) (fun J1 eJ1 => ?_)
  refine kx_go 2 (pc' := 12) (lv' := [.ref 26, .ref 14, .int x2, .ref n3]) (st' := [.ref n3, .ref 26]) hX ok_Text_read rfl ?_
  refine kx_putdn hX ok_Text_read rfl (nx := 15) rfl ?_
  show _ → kW G X m_Text_read (cD C 14 n3) J1 0 0 15 [.ref 26, .ref 14, .int x2, .ref n3] []
  refine kx_go 2 (pc' := 17) (lv' := [.ref 26, .ref 14, .int x2, .ref n3]) (st' := [.int (0 : Int32), .ref 26]) hX ok_Text_read rfl ?_
  refine kx_puti hX ok_Text_read rfl (k := 6) (nx := 20) rfl rfl ?_
  refine kx_lt (Q := fun J2 => kW G X m_Text_read (cD C 14 n3) J2 0 0 20 [.ref 26, .ref 14, .int x2, .ref n3] []) (fun J2 eJ2 => ?_)
  refine kx_go 2 (pc' := 22) (lv' := [.ref 26, .ref 14, .int x2, .ref n3]) (st' := [.int (0 : Int32), .ref 26]) hX ok_Text_read rfl ?_
  refine kx_puti hX ok_Text_read rfl (k := 2) (nx := 25) rfl rfl ?_
  refine kx_lt (Q := fun J3 => kW G X m_Text_read (cD C 14 n3) J3 0 0 25 [.ref 26, .ref 14, .int x2, .ref n3] []) (fun J3 eJ3 => ?_)
  refine kx_go 3 (pc' := 28) (lv' := [.ref 26, .ref 14, .int x2, .ref n3]) (st' := [.int (0 : Int32), .int (0 : Int32), .ref 26]) hX ok_Text_read rfl ?_
  refine kx_bind (fun p4 hp4 => ?_)
  refine kx_V (r := 26) (as := [.int (0 : Int32), .int (0 : Int32)]) (by decide) hX ok_Text_read (nx := 31) rfl l_Text_40 (by decide) rfl (fun _ => s_Text_readLevel (G := G) (d := 540 + 1) (Nat.le_refl _) n3 (U_rl n3 60) (U_rf n3 60) C J3 (0 : Int32) (0 : Int32) hn3 (s_U_rl C n3 hn3 60) (s_U_rf C n3 hn3 60) p4 hp4) (by omega) rfl (rest := []) rfl (Nat.le_of_ble_eq_true rfl) ⟨Nat.le_of_ble_eq_true rfl, Nat.le_of_ble_eq_true rfl⟩ ?_
  show _ → kW G X m_Text_read (cD C 14 n3) p4.2 0 0 31 [.ref 26, .ref 14, .int x2, .ref n3] [.int p4.1]
  refine kx_go 1 (pc' := if p4.1 = (0 : Int32) then 49 else 34) (lv' := [.ref 26, .ref 14, .int x2, .ref n3]) (st' := []) hX ok_Text_read rfl ?_
  refine kx_ite (fun c5 => ?_) (fun c5 => ?_)
  · refine kx_go 1 (pc' := 50) (lv' := [.ref 26, .ref 14, .int x2, .ref n3]) (st' := [.ref 26]) hX ok_Text_read rfl ?_
    refine kx_geti hX ok_Text_read rfl (k := 6) (nx := 53) rfl ?_
    intro h; have h := Option.some.inj h; subst h
    exact kx_iret hX hE ok_Text_read (nx := 54) rfl rfl ⟨Nat.le_of_ble_eq_true rfl, Nat.le_of_ble_eq_true rfl⟩
  · refine kx_go 1 (pc' := 35) (lv' := [.ref 26, .ref 14, .int x2, .ref n3]) (st' := [.ref 26]) hX ok_Text_read rfl ?_
    refine kx_geti hX ok_Text_read rfl (k := 6) (nx := 38) rfl ?_
    refine kx_go 1 (pc' := 39) (lv' := [.ref 26, .ref 14, .int x2, .ref n3]) (st' := [.ref 26, .int (p4.2 26 6)]) hX ok_Text_read rfl ?_
    refine kx_geti hX ok_Text_read rfl (k := 5) (nx := 42) rfl ?_
    refine kx_go 1 (pc' := if (p4.2 26 6) = (p4.2 26 5) then 45 else 49) (lv' := [.ref 26, .ref 14, .int x2, .ref n3]) (st' := []) hX ok_Text_read rfl ?_
    refine kx_ite (fun c6 => ?_) (fun c6 => ?_)
    · refine kx_go 2 (pc' := 53) (lv' := [.ref 26, .ref 14, .int x2, .ref n3]) (st' := [.int (-1 : Int32)]) hX ok_Text_read rfl ?_
      intro h; have h := Option.some.inj h; subst h
      exact kx_iret hX hE ok_Text_read (nx := 54) rfl rfl ⟨Nat.le_of_ble_eq_true rfl, Nat.le_of_ble_eq_true rfl⟩
    · refine kx_go 1 (pc' := 50) (lv' := [.ref 26, .ref 14, .int x2, .ref n3]) (st' := [.ref 26]) hX ok_Text_read rfl ?_
      refine kx_geti hX ok_Text_read rfl (k := 6) (nx := 53) rfl ?_
      intro h; have h := Option.some.inj h; subst h
      exact kx_iret hX hE ok_Text_read (nx := 54) rfl rfl ⟨Nat.le_of_ble_eq_true rfl, Nat.le_of_ble_eq_true rfl⟩
def L_Text_copyFrom_10 (t0 : Nat) : Nat → Int32 → HI → Option (HI)
  | 0, _, _ => none
  | f + 1, x2, I => if (I 26 2) ≤ x2 then (some I) else (grd (bnd x2 50) (lt (xu I (t0 + 1) x2.toNatClampNeg (I 27 x2.toNatClampNeg)) fun J3 => lt (xu J3 (t0 + 2) x2.toNatClampNeg (J3 28 x2.toNatClampNeg)) fun J4 => L_Text_copyFrom_10 t0 f (x2 + (1 : Int32)) J4))
theorem s_L_Text_copyFrom_10 {G : xG} {X : xC} {d : Nat} (hd : 0 ≤ d) (hX : xAmb G X m_Text_copyFrom d 0 0)  (C : HC) (t0 : Nat) (ht0 : isT t0) : ∀ (f : Nat) (x2 : Int32) (I : HI) (r : HI), (kW G X m_Text_copyFrom C r 0 0 48 [.null, .null, .null] []) → L_Text_copyFrom_10 t0 f x2 I = some r → kW G X m_Text_copyFrom C I 0 0 10 [.ref t0, .ref 26, .int x2] [] := by
  intro f
  induction f with
  | zero => intro x2 I r hk h; rw [L_Text_copyFrom_10] at h; cases h
  | succ f ih =>
    intro x2 I r hk
    rw [L_Text_copyFrom_10]
    refine kx_go 2 (pc' := 12) (lv' := [.ref t0, .ref 26, .int x2]) (st' := [.ref 26, .int x2]) hX ok_Text_copyFrom rfl ?_
    refine kx_geti hX ok_Text_copyFrom rfl (k := 2) (nx := 15) rfl ?_
    refine kx_go 1 (pc' := if (I 26 2) ≤ x2 then 48 else 18) (lv' := [.ref t0, .ref 26, .int x2]) (st' := []) hX ok_Text_copyFrom rfl ?_
    refine kx_ite (fun c1 => ?_) (fun c1 => ?_)
    · refine kx_weak (lv' := [.null, .null, .null]) (by simp [xsub]) ?_
      intro h; have h := Option.some.inj h; subst h
      exact hk
    · refine kx_go 1 (pc' := 19) (lv' := [.ref t0, .ref 26, .int x2]) (st' := [.ref t0]) hX ok_Text_copyFrom rfl ?_
      refine kx_gettp ht0 hX ok_Text_copyFrom rfl (k := 0) (q := 1) (nx := 22) rfl (by decide) rfl ?_
      refine kx_go 2 (pc' := 24) (lv' := [.ref t0, .ref 26, .int x2]) (st' := [.ref 26, .int x2, .ref (t0 + 1)]) hX ok_Text_copyFrom rfl ?_
      refine kx_getd hX ok_Text_copyFrom rfl (q := 27) (nx := 27) rfl ?_
      refine kx_go 1 (pc' := 28) (lv' := [.ref t0, .ref 26, .int x2]) (st' := [.int x2, .ref 27, .int x2, .ref (t0 + 1)]) hX ok_Text_copyFrom rfl ?_
      refine kx_iald hX ok_Text_copyFrom (w := 50) (nx := 29) rfl (fun b2 => ?_)
      refine kx_qastc (isT_kA ht0 (by decide)) hX ok_Text_copyFrom (nx := 30) rfl b2 (k := x2.toNatClampNeg) rfl ?_
      refine kx_lt (Q := fun J3 => kW G X m_Text_copyFrom C J3 0 0 30 [.ref t0, .ref 26, .int x2] []) (fun J3 eJ3 => ?_)
      refine kx_go 1 (pc' := 31) (lv' := [.ref t0, .ref 26, .int x2]) (st' := [.ref t0]) hX ok_Text_copyFrom rfl ?_
      refine kx_gettp ht0 hX ok_Text_copyFrom rfl (k := 1) (q := 2) (nx := 34) rfl (by decide) rfl ?_
      refine kx_go 2 (pc' := 36) (lv' := [.ref t0, .ref 26, .int x2]) (st' := [.ref 26, .int x2, .ref (t0 + 2)]) hX ok_Text_copyFrom rfl ?_
      refine kx_getd hX ok_Text_copyFrom rfl (q := 28) (nx := 39) rfl ?_
      refine kx_go 1 (pc' := 40) (lv' := [.ref t0, .ref 26, .int x2]) (st' := [.int x2, .ref 28, .int x2, .ref (t0 + 2)]) hX ok_Text_copyFrom rfl ?_
      refine kx_ialdc hX ok_Text_copyFrom (w := 50) (nx := 41) rfl b2 (k := x2.toNatClampNeg) rfl ?_
      refine kx_qastc (isT_kA ht0 (by decide)) hX ok_Text_copyFrom (nx := 42) rfl b2 (k := x2.toNatClampNeg) rfl ?_
      refine kx_lt (Q := fun J4 => kW G X m_Text_copyFrom C J4 0 0 42 [.ref t0, .ref 26, .int x2] []) (fun J4 eJ4 => ?_)
      refine kx_go 2 (pc' := 10) (lv' := [.ref t0, .ref 26, .int (x2 + (1 : Int32))]) (st' := []) hX ok_Text_copyFrom rfl ?_
      exact fun h => ih (x2 + (1 : Int32)) J4 r hk h
def M_Text_copyFrom (I : HI) (t0 : Nat) : Option (HI) := lt (xu I t0 2 (I 26 2)) fun J1 => Option.bind (L_Text_copyFrom_10 t0 1000 (0 : Int32) J1) fun p2 => some p2
theorem s_Text_copyFrom {G : xG} {d : Nat} (hd : 0 ≤ d) (C : HC) (I : HI) (t0 : Nat) (ht0 : isT t0) (r : HI) : M_Text_copyFrom I t0 = some r → kM G d m_Text_copyFrom [.ref t0, .ref 26] C I 0 0 none C r := by
  unfold M_Text_copyFrom
  refine kM.of (by decide +kernel) (Nat.le_of_ble_eq_true rfl) (lv := [.ref t0, .ref 26, .null]) rfl (fun X hX hE => ?_)
  refine kx_go 2 (pc' := 2) (lv' := [.ref t0, .ref 26, .null]) (st' := [.ref 26, .ref t0]) hX ok_Text_copyFrom rfl ?_
  refine kx_geti hX ok_Text_copyFrom rfl (k := 2) (nx := 5) rfl ?_
  refine kx_putti ht0 hX ok_Text_copyFrom rfl (k := 2) (nx := 8) rfl rfl rfl ?_
  refine kx_lt (Q := fun J1 => kW G X m_Text_copyFrom C J1 0 0 8 [.ref t0, .ref 26, .null] []) (fun J1 eJ1 => ?_)
  refine kx_go 2 (pc' := 10) (lv' := [.ref t0, .ref 26, .int (0 : Int32)]) (st' := []) hX ok_Text_copyFrom rfl ?_
  refine kx_bind (fun p2 hp2 => ?_)
  refine kx_via (fun hk => s_L_Text_copyFrom_10 (G := G) (X := X) (by omega) hX C t0 ht0 1000 (0 : Int32) J1 p2 hk hp2) ?_
  intro h; have h := Option.some.inj h; subst h
  exact kx_vret hX hE ok_Text_copyFrom (nx := 49) rfl rfl ⟨Nat.le_of_ble_eq_true rfl, Nat.le_of_ble_eq_true rfl⟩
def M_Wall_readTape (C : HC) (I : HI) (x1 : Int32) : Option (Int32 × HC × HI) := if x1 = (0 : Int32) then (Option.bind (M_Text_read C I (I 1 7) 1000003) fun p2 => if (0 : Int32) ≤ p2.1 then (lt (xu p2.2.2 1 7 (0 : Int32)) fun J4 => some (p2.1, p2.2.1, J4)) else (grd (bnd x1 2) (Option.bind (M_Text_copyFrom p2.2.2 (15 + 1 + 5 * x1.toNatClampNeg)) fun p6 => lt (xu p6 1 7 (0 : Int32)) fun J7 => some (p2.1, p2.2.1, J7)))) else (Option.bind (M_Text_read C I (I 1 7) 1000004) fun p8 => if (0 : Int32) ≤ p8.1 then (lt (xu p8.2.2 1 7 (0 : Int32)) fun J10 => some (p8.1, p8.2.1, J10)) else (grd (bnd x1 2) (Option.bind (M_Text_copyFrom p8.2.2 (15 + 1 + 5 * x1.toNatClampNeg)) fun p12 => lt (xu p12 1 7 (0 : Int32)) fun J13 => some (p8.1, p8.2.1, J13))))
theorem s_Wall_readTape {G : xG} {d : Nat} (hd : 543 ≤ d) (C : HC) (I : HI) (x1 : Int32)  (r : Int32 × HC × HI) : M_Wall_readTape C I x1 = some r → kM G d m_Wall_readTape [.ref 1, .int x1] C I 0 0 (some (.int r.1)) r.2.1 r.2.2 := by
  unfold M_Wall_readTape
  refine kM.of (by decide +kernel) (Nat.le_of_ble_eq_true rfl) (lv := [.ref 1, .int x1, .null]) rfl (fun X hX hE => ?_)
  refine kx_go 1 (pc' := 1) (lv' := [.ref 1, .int x1, .null]) (st' := [.ref 1]) hX ok_Wall_readTape rfl ?_
  refine kx_getp hX ok_Wall_readTape rfl (q := 26) (nx := 4) rfl ?_
  refine kx_go 1 (pc' := 5) (lv' := [.ref 1, .int x1, .null]) (st' := [.ref 1, .ref 26]) hX ok_Wall_readTape rfl ?_
  refine kx_getp hX ok_Wall_readTape rfl (q := 14) (nx := 8) rfl ?_
  refine kx_go 1 (pc' := 9) (lv' := [.ref 1, .int x1, .null]) (st' := [.ref 1, .ref 14, .ref 26]) hX ok_Wall_readTape rfl ?_
  refine kx_geti hX ok_Wall_readTape rfl (k := 7) (nx := 12) rfl ?_
  refine kx_go 2 (pc' := if x1 = (0 : Int32) then 16 else 21) (lv' := [.ref 1, .int x1, .null]) (st' := [.int (I 1 7), .ref 14, .ref 26]) hX ok_Wall_readTape rfl ?_
  refine kx_ite (fun c1 => ?_) (fun c1 => ?_)
  · refine kx_str3 hX ok_Wall_readTape rfl (nx := 18) rfl ?_
    refine kx_go 1 (pc' := 23) (lv' := [.ref 1, .int x1, .null]) (st' := [.ref 1000003, .int (I 1 7), .ref 14, .ref 26]) hX ok_Wall_readTape rfl ?_
    refine kx_bind (fun p2 hp2 => ?_)
    refine kx_V (r := 26) (as := [.ref 14, .int (I 1 7), .ref 1000003]) (by decide) hX ok_Wall_readTape (nx := 26) rfl l_Wall_173 (by decide) rfl (fun _ => s_Text_read (G := G) (d := 542) (Nat.le_refl _) C I (I 1 7) 1000003 (by decide) p2 hp2) (by omega) rfl (rest := []) rfl (Nat.le_of_ble_eq_true rfl) ⟨Nat.le_of_ble_eq_true rfl, Nat.le_of_ble_eq_true rfl⟩ ?_
    show _ → kW G X m_Wall_readTape p2.2.1 p2.2.2 0 0 26 [.ref 1, .int x1, .null] [.int p2.1]
    refine kx_go 3 (pc' := if (0 : Int32) ≤ p2.1 then 44 else 31) (lv' := [.ref 1, .int x1, .int p2.1]) (st' := []) hX ok_Wall_readTape rfl ?_
    refine kx_ite (fun c3 => ?_) (fun c3 => ?_)
    · refine kx_go 2 (pc' := 46) (lv' := [.ref 1, .int x1, .int p2.1]) (st' := [.int (0 : Int32), .ref 1]) hX ok_Wall_readTape rfl ?_
      refine kx_puti hX ok_Wall_readTape rfl (k := 7) (nx := 49) rfl rfl ?_
      refine kx_lt (Q := fun J4 => kW G X m_Wall_readTape p2.2.1 J4 0 0 49 [.ref 1, .int x1, .int p2.1] []) (fun J4 eJ4 => ?_)
      refine kx_go 1 (pc' := 50) (lv' := [.ref 1, .int x1, .int p2.1]) (st' := [.int p2.1]) hX ok_Wall_readTape rfl ?_
      intro h; have h := Option.some.inj h; subst h
      exact kx_iret hX hE ok_Wall_readTape (nx := 51) rfl rfl ⟨Nat.le_of_ble_eq_true rfl, Nat.le_of_ble_eq_true rfl⟩
    · refine kx_go 1 (pc' := 32) (lv' := [.ref 1, .int x1, .int p2.1]) (st' := [.ref 1]) hX ok_Wall_readTape rfl ?_
      refine kx_getp hX ok_Wall_readTape rfl (q := 15) (nx := 35) rfl ?_
      refine kx_go 1 (pc' := 36) (lv' := [.ref 1, .int x1, .int p2.1]) (st' := [.int x1, .ref 15]) hX ok_Wall_readTape rfl ?_
      refine kx_aaX hX ok_Wall_readTape (nx := 37) rfl (by decide) (fun bht5 ht5 => ?_)
      refine kx_go 1 (pc' := 38) (lv' := [.ref 1, .int x1, .int p2.1]) (st' := [.ref 1, .ref (15 + 1 + 5 * x1.toNatClampNeg)]) hX ok_Wall_readTape rfl ?_
      refine kx_getp hX ok_Wall_readTape rfl (q := 26) (nx := 41) rfl ?_
      refine kx_bind (fun p6 hp6 => ?_)
      refine kx_VT (as := [.ref 26]) ht5 hX ok_Wall_readTape (nx := 44) rfl l_Wall_76 rfl (fun _ => s_Text_copyFrom (G := G) (d := 0) (Nat.le_refl _) p2.2.1 p2.2.2 (15 + 1 + 5 * x1.toNatClampNeg) ht5 p6 hp6) (by omega) rfl (rest := []) rfl (Nat.le_of_ble_eq_true rfl) ⟨Nat.le_of_ble_eq_true rfl, Nat.le_of_ble_eq_true rfl⟩ ?_
      show _ → kW G X m_Wall_readTape p2.2.1 p6 0 0 44 [.ref 1, .int x1, .int p2.1] []
      refine kx_go 2 (pc' := 46) (lv' := [.ref 1, .int x1, .int p2.1]) (st' := [.int (0 : Int32), .ref 1]) hX ok_Wall_readTape rfl ?_
      refine kx_puti hX ok_Wall_readTape rfl (k := 7) (nx := 49) rfl rfl ?_
      refine kx_lt (Q := fun J7 => kW G X m_Wall_readTape p2.2.1 J7 0 0 49 [.ref 1, .int x1, .int p2.1] []) (fun J7 eJ7 => ?_)
      refine kx_go 1 (pc' := 50) (lv' := [.ref 1, .int x1, .int p2.1]) (st' := [.int p2.1]) hX ok_Wall_readTape rfl ?_
      intro h; have h := Option.some.inj h; subst h
      exact kx_iret hX hE ok_Wall_readTape (nx := 51) rfl rfl ⟨Nat.le_of_ble_eq_true rfl, Nat.le_of_ble_eq_true rfl⟩
  · refine kx_str4 hX ok_Wall_readTape rfl (nx := 23) rfl ?_
    refine kx_bind (fun p8 hp8 => ?_)
    refine kx_V (r := 26) (as := [.ref 14, .int (I 1 7), .ref 1000004]) (by decide) hX ok_Wall_readTape (nx := 26) rfl l_Wall_173 (by decide) rfl (fun _ => s_Text_read (G := G) (d := 542) (Nat.le_refl _) C I (I 1 7) 1000004 (by decide) p8 hp8) (by omega) rfl (rest := []) rfl (Nat.le_of_ble_eq_true rfl) ⟨Nat.le_of_ble_eq_true rfl, Nat.le_of_ble_eq_true rfl⟩ ?_
    show _ → kW G X m_Wall_readTape p8.2.1 p8.2.2 0 0 26 [.ref 1, .int x1, .null] [.int p8.1]
    refine kx_go 3 (pc' := if (0 : Int32) ≤ p8.1 then 44 else 31) (lv' := [.ref 1, .int x1, .int p8.1]) (st' := []) hX ok_Wall_readTape rfl ?_
    refine kx_ite (fun c9 => ?_) (fun c9 => ?_)
    · refine kx_go 2 (pc' := 46) (lv' := [.ref 1, .int x1, .int p8.1]) (st' := [.int (0 : Int32), .ref 1]) hX ok_Wall_readTape rfl ?_
      refine kx_puti hX ok_Wall_readTape rfl (k := 7) (nx := 49) rfl rfl ?_
      refine kx_lt (Q := fun J10 => kW G X m_Wall_readTape p8.2.1 J10 0 0 49 [.ref 1, .int x1, .int p8.1] []) (fun J10 eJ10 => ?_)
      refine kx_go 1 (pc' := 50) (lv' := [.ref 1, .int x1, .int p8.1]) (st' := [.int p8.1]) hX ok_Wall_readTape rfl ?_
      intro h; have h := Option.some.inj h; subst h
      exact kx_iret hX hE ok_Wall_readTape (nx := 51) rfl rfl ⟨Nat.le_of_ble_eq_true rfl, Nat.le_of_ble_eq_true rfl⟩
    · refine kx_go 1 (pc' := 32) (lv' := [.ref 1, .int x1, .int p8.1]) (st' := [.ref 1]) hX ok_Wall_readTape rfl ?_
      refine kx_getp hX ok_Wall_readTape rfl (q := 15) (nx := 35) rfl ?_
      refine kx_go 1 (pc' := 36) (lv' := [.ref 1, .int x1, .int p8.1]) (st' := [.int x1, .ref 15]) hX ok_Wall_readTape rfl ?_
      refine kx_aaX hX ok_Wall_readTape (nx := 37) rfl (by decide) (fun bht11 ht11 => ?_)
      refine kx_go 1 (pc' := 38) (lv' := [.ref 1, .int x1, .int p8.1]) (st' := [.ref 1, .ref (15 + 1 + 5 * x1.toNatClampNeg)]) hX ok_Wall_readTape rfl ?_
      refine kx_getp hX ok_Wall_readTape rfl (q := 26) (nx := 41) rfl ?_
      refine kx_bind (fun p12 hp12 => ?_)
      refine kx_VT (as := [.ref 26]) ht11 hX ok_Wall_readTape (nx := 44) rfl l_Wall_76 rfl (fun _ => s_Text_copyFrom (G := G) (d := 0) (Nat.le_refl _) p8.2.1 p8.2.2 (15 + 1 + 5 * x1.toNatClampNeg) ht11 p12 hp12) (by omega) rfl (rest := []) rfl (Nat.le_of_ble_eq_true rfl) ⟨Nat.le_of_ble_eq_true rfl, Nat.le_of_ble_eq_true rfl⟩ ?_
      show _ → kW G X m_Wall_readTape p8.2.1 p12 0 0 44 [.ref 1, .int x1, .int p8.1] []
      refine kx_go 2 (pc' := 46) (lv' := [.ref 1, .int x1, .int p8.1]) (st' := [.int (0 : Int32), .ref 1]) hX ok_Wall_readTape rfl ?_
      refine kx_puti hX ok_Wall_readTape rfl (k := 7) (nx := 49) rfl rfl ?_
      refine kx_lt (Q := fun J13 => kW G X m_Wall_readTape p8.2.1 J13 0 0 49 [.ref 1, .int x1, .int p8.1] []) (fun J13 eJ13 => ?_)
      refine kx_go 1 (pc' := 50) (lv' := [.ref 1, .int x1, .int p8.1]) (st' := [.int p8.1]) hX ok_Wall_readTape rfl ?_
      intro h; have h := Option.some.inj h; subst h
      exact kx_iret hX hE ok_Wall_readTape (nx := 51) rfl rfl ⟨Nat.le_of_ble_eq_true rfl, Nat.le_of_ble_eq_true rfl⟩
