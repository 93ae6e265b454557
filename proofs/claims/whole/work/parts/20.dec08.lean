def M_Model_count (I : HI) (x1 : Int32) : Option (Int32 × HI) := if x1 = (0 : Int32) then (some ((I 89 0), I)) else (if x1 = (1 : Int32) then (some ((I 89 1), I)) else (if x1 = (2 : Int32) then (some ((I 89 3), I)) else (if x1 = (3 : Int32) then (some ((I 89 4), I)) else (if x1 = (4 : Int32) then (some ((I 88 21), I)) else (if x1 = (5 : Int32) then (some ((I 89 2), I)) else (Option.bind (M_Model_finds I (1 : Int32)) fun p7 => some (p7.1, p7.2)))))))
theorem s_Model_count {G : xG} {d : Nat} (hd : 1 ≤ d) (C : HC) (I : HI) (x1 : Int32)  (r : Int32 × HI) : M_Model_count I x1 = some r → kM G d m_Model_count [.ref 88, .int x1] C I 0 0 (some (.int r.1)) C r.2 := by
  unfold M_Model_count
  refine kM.of (by decide +kernel) (Nat.le_of_ble_eq_true rfl) (lv := [.ref 88, .int x1]) rfl (fun X hX hE => ?_)
  refine kx_go 2 (pc' := xtsw x1 [((0 : Int32), 40), ((1 : Int32), 47), ((2 : Int32), 54), ((3 : Int32), 61), ((4 : Int32), 68), ((5 : Int32), 73)] 80) (lv' := [.ref 88, .int x1]) (st' := []) hX ok_Model_count rfl ?_
  refine kx_sw (fun c1 => ?_) (fun c1 => ?_)
  · refine kx_go 1 (pc' := 41) (lv' := [.ref 88, .int x1]) (st' := [.ref 88]) hX ok_Model_count rfl ?_
    refine kx_getp hX ok_Model_count rfl (q := 89) (nx := 44) rfl ?_
    refine kx_go 1 (pc' := 45) (lv' := [.ref 88, .int x1]) (st' := [.int (0 : Int32), .ref 89]) hX ok_Model_count rfl ?_
    refine kx_ialdc hX ok_Model_count (w := 270) (nx := 46) rfl rfl (k := 0) rfl ?_
    intro h; have h := Option.some.inj h; subst h
    exact kx_iret hX hE ok_Model_count (nx := 47) rfl rfl ⟨Nat.le_of_ble_eq_true rfl, Nat.le_of_ble_eq_true rfl⟩
  · refine kx_sw (fun c2 => ?_) (fun c2 => ?_)
    · refine kx_go 1 (pc' := 48) (lv' := [.ref 88, .int x1]) (st' := [.ref 88]) hX ok_Model_count rfl ?_
      refine kx_getp hX ok_Model_count rfl (q := 89) (nx := 51) rfl ?_
      refine kx_go 1 (pc' := 52) (lv' := [.ref 88, .int x1]) (st' := [.int (1 : Int32), .ref 89]) hX ok_Model_count rfl ?_
      refine kx_ialdc hX ok_Model_count (w := 270) (nx := 53) rfl rfl (k := 1) rfl ?_
      intro h; have h := Option.some.inj h; subst h
      exact kx_iret hX hE ok_Model_count (nx := 54) rfl rfl ⟨Nat.le_of_ble_eq_true rfl, Nat.le_of_ble_eq_true rfl⟩
    · refine kx_sw (fun c3 => ?_) (fun c3 => ?_)
      · refine kx_go 1 (pc' := 55) (lv' := [.ref 88, .int x1]) (st' := [.ref 88]) hX ok_Model_count rfl ?_
        refine kx_getp hX ok_Model_count rfl (q := 89) (nx := 58) rfl ?_
        refine kx_go 1 (pc' := 59) (lv' := [.ref 88, .int x1]) (st' := [.int (3 : Int32), .ref 89]) hX ok_Model_count rfl ?_
        refine kx_ialdc hX ok_Model_count (w := 270) (nx := 60) rfl rfl (k := 3) rfl ?_
        intro h; have h := Option.some.inj h; subst h
        exact kx_iret hX hE ok_Model_count (nx := 61) rfl rfl ⟨Nat.le_of_ble_eq_true rfl, Nat.le_of_ble_eq_true rfl⟩
      · refine kx_sw (fun c4 => ?_) (fun c4 => ?_)
        · refine kx_go 1 (pc' := 62) (lv' := [.ref 88, .int x1]) (st' := [.ref 88]) hX ok_Model_count rfl ?_
          refine kx_getp hX ok_Model_count rfl (q := 89) (nx := 65) rfl ?_
          refine kx_go 1 (pc' := 66) (lv' := [.ref 88, .int x1]) (st' := [.int (4 : Int32), .ref 89]) hX ok_Model_count rfl ?_
          refine kx_ialdc hX ok_Model_count (w := 270) (nx := 67) rfl rfl (k := 4) rfl ?_
          intro h; have h := Option.some.inj h; subst h
          exact kx_iret hX hE ok_Model_count (nx := 68) rfl rfl ⟨Nat.le_of_ble_eq_true rfl, Nat.le_of_ble_eq_true rfl⟩
        · refine kx_sw (fun c5 => ?_) (fun c5 => ?_)
          · refine kx_go 1 (pc' := 69) (lv' := [.ref 88, .int x1]) (st' := [.ref 88]) hX ok_Model_count rfl ?_
            refine kx_geti hX ok_Model_count rfl (k := 21) (nx := 72) rfl ?_
            intro h; have h := Option.some.inj h; subst h
            exact kx_iret hX hE ok_Model_count (nx := 73) rfl rfl ⟨Nat.le_of_ble_eq_true rfl, Nat.le_of_ble_eq_true rfl⟩
          · refine kx_sw (fun c6 => ?_) (fun c6 => ?_)
            · refine kx_go 1 (pc' := 74) (lv' := [.ref 88, .int x1]) (st' := [.ref 88]) hX ok_Model_count rfl ?_
              refine kx_getp hX ok_Model_count rfl (q := 89) (nx := 77) rfl ?_
              refine kx_go 1 (pc' := 78) (lv' := [.ref 88, .int x1]) (st' := [.int (2 : Int32), .ref 89]) hX ok_Model_count rfl ?_
              refine kx_ialdc hX ok_Model_count (w := 270) (nx := 79) rfl rfl (k := 2) rfl ?_
              intro h; have h := Option.some.inj h; subst h
              exact kx_iret hX hE ok_Model_count (nx := 80) rfl rfl ⟨Nat.le_of_ble_eq_true rfl, Nat.le_of_ble_eq_true rfl⟩
            · refine kx_sw0 ?_
              refine kx_go 2 (pc' := 82) (lv' := [.ref 88, .int x1]) (st' := [.int (1 : Int32), .ref 88]) hX ok_Model_count rfl ?_
              refine kx_bind (fun p7 hp7 => ?_)
              refine kx_V (r := 88) (as := [.int (1 : Int32)]) (by decide) hX ok_Model_count (nx := 85) rfl l_Model_129 (by decide) rfl (fun _ => s_Model_finds (G := G) (d := 0) (Nat.le_refl _) C I (1 : Int32) p7 hp7) (by omega) rfl (rest := []) rfl (Nat.le_of_ble_eq_true rfl) ⟨Nat.le_of_ble_eq_true rfl, Nat.le_of_ble_eq_true rfl⟩ ?_
              show _ → kW G X m_Model_count C p7.2 0 0 85 [.ref 88, .int x1] [.int p7.1]
              intro h; have h := Option.some.inj h; subst h
              exact kx_iret hX hE ok_Model_count (nx := 86) rfl rfl ⟨Nat.le_of_ble_eq_true rfl, Nat.le_of_ble_eq_true rfl⟩
def M_Model_told (I : HI) (x1 : Int32) : Option (Int32 × HI) := if (M_Model_in (x1.toInt64) (Int64.ofNat 1) (Int64.ofNat 5)) = (0 : Int32) then (Option.bind (M_Model_finds I (1 : Int32)) fun p2 => some (p2.1, p2.2)) else (grd (bnd x1 6) (some ((I 91 x1.toNatClampNeg), I)))
theorem s_Model_told {G : xG} {d : Nat} (hd : 1 ≤ d) (C : HC) (I : HI) (x1 : Int32)  (r : Int32 × HI) : M_Model_told I x1 = some r → kM G d m_Model_told [.ref 88, .int x1] C I 0 0 (some (.int r.1)) C r.2 := by
  unfold M_Model_told
  refine kM.of (by decide +kernel) (Nat.le_of_ble_eq_true rfl) (lv := [.ref 88, .int x1]) rfl (fun X hX hE => ?_)
  refine kx_go 4 (pc' := 6) (lv' := [.ref 88, .int x1]) (st' := [.long (Int64.ofNat 5), .long (Int64.ofNat 1), .long (x1.toInt64)]) hX ok_Model_told rfl ?_
  refine kx_S (as := [.long (x1.toInt64), .long (Int64.ofNat 1), .long (Int64.ofNat 5)]) hX ok_Model_told (nx := 9) rfl l_Model_66 (fun _ => s_Model_in (G := G) (d := 0) (Nat.le_refl _) C I (x1.toInt64) (Int64.ofNat 1) (Int64.ofNat 5) _ rfl) (by omega) rfl (rest := []) rfl (Nat.le_of_ble_eq_true rfl) ⟨Nat.le_of_ble_eq_true rfl, Nat.le_of_ble_eq_true rfl⟩ ?_
  show _ → kW G X m_Model_told C I 0 0 9 [.ref 88, .int x1] [.int (M_Model_in (x1.toInt64) (Int64.ofNat 1) (Int64.ofNat 5))]
  refine kx_go 1 (pc' := if (M_Model_in (x1.toInt64) (Int64.ofNat 1) (Int64.ofNat 5)) = (0 : Int32) then 21 else 12) (lv' := [.ref 88, .int x1]) (st' := []) hX ok_Model_told rfl ?_
  refine kx_ite (fun c1 => ?_) (fun c1 => ?_)
  · refine kx_go 2 (pc' := 23) (lv' := [.ref 88, .int x1]) (st' := [.int (1 : Int32), .ref 88]) hX ok_Model_told rfl ?_
    refine kx_bind (fun p2 hp2 => ?_)
    refine kx_V (r := 88) (as := [.int (1 : Int32)]) (by decide) hX ok_Model_told (nx := 26) rfl l_Model_129 (by decide) rfl (fun _ => s_Model_finds (G := G) (d := 0) (Nat.le_refl _) C I (1 : Int32) p2 hp2) (by omega) rfl (rest := []) rfl (Nat.le_of_ble_eq_true rfl) ⟨Nat.le_of_ble_eq_true rfl, Nat.le_of_ble_eq_true rfl⟩ ?_
    show _ → kW G X m_Model_told C p2.2 0 0 26 [.ref 88, .int x1] [.int p2.1]
    intro h; have h := Option.some.inj h; subst h
    exact kx_iret hX hE ok_Model_told (nx := 27) rfl rfl ⟨Nat.le_of_ble_eq_true rfl, Nat.le_of_ble_eq_true rfl⟩
  · refine kx_go 1 (pc' := 13) (lv' := [.ref 88, .int x1]) (st' := [.ref 88]) hX ok_Model_told rfl ?_
    refine kx_getp hX ok_Model_told rfl (q := 91) (nx := 16) rfl ?_
    refine kx_go 1 (pc' := 17) (lv' := [.ref 88, .int x1]) (st' := [.int x1, .ref 91]) hX ok_Model_told rfl ?_
    refine kx_iald hX ok_Model_told (w := 6) (nx := 18) rfl (fun b3 => ?_)
    refine kx_go 1 (pc' := 26) (lv' := [.ref 88, .int x1]) (st' := [.int (I 91 x1.toNatClampNeg)]) hX ok_Model_told rfl ?_
    intro h; have h := Option.some.inj h; subst h
    exact kx_iret hX hE ok_Model_told (nx := 27) rfl rfl ⟨Nat.le_of_ble_eq_true rfl, Nat.le_of_ble_eq_true rfl⟩
def M_Wall_within (x0 : Int32) (x1 : Int32) : Int32 := if x0 < (0 : Int32) then ((0 : Int32)) else (if x1 < x0 then ((0 : Int32)) else ((1 : Int32)))
theorem s_Wall_within {G : xG} {d : Nat} (hd : 0 ≤ d) (C : HC) (I : HI) (x0 : Int32) (x1 : Int32)  (r : Int32) : M_Wall_within x0 x1 = r → kM G d m_Wall_within [.int x0, .int x1] C I 0 0 (some (.int r)) C I := by
  unfold M_Wall_within
  refine kM.of (by decide +kernel) (Nat.le_of_ble_eq_true rfl) (lv := [.int x0, .int x1]) rfl (fun X hX hE => ?_)
  refine kx_go 2 (pc' := if x0 < (0 : Int32) then 13 else 4) (lv' := [.int x0, .int x1]) (st' := []) hX ok_Wall_within rfl ?_
  refine kx_ite (fun c1 => ?_) (fun c1 => ?_)
  · refine kx_go 1 (pc' := 14) (lv' := [.int x0, .int x1]) (st' := [.int (0 : Int32)]) hX ok_Wall_within rfl ?_
    rintro rfl
    exact kx_zret hX hE ok_Wall_within (nx := 15) rfl rfl (Or.inl rfl) ⟨Nat.le_of_ble_eq_true rfl, Nat.le_of_ble_eq_true rfl⟩
  · refine kx_go 3 (pc' := if x1 < x0 then 13 else 9) (lv' := [.int x0, .int x1]) (st' := []) hX ok_Wall_within rfl ?_
    refine kx_ite (fun c2 => ?_) (fun c2 => ?_)
    · refine kx_go 1 (pc' := 14) (lv' := [.int x0, .int x1]) (st' := [.int (0 : Int32)]) hX ok_Wall_within rfl ?_
      rintro rfl
      exact kx_zret hX hE ok_Wall_within (nx := 15) rfl rfl (Or.inl rfl) ⟨Nat.le_of_ble_eq_true rfl, Nat.le_of_ble_eq_true rfl⟩
    · refine kx_go 2 (pc' := 14) (lv' := [.int x0, .int x1]) (st' := [.int (1 : Int32)]) hX ok_Wall_within rfl ?_
      rintro rfl
      exact kx_zret hX hE ok_Wall_within (nx := 15) rfl rfl (Or.inr rfl) ⟨Nat.le_of_ble_eq_true rfl, Nat.le_of_ble_eq_true rfl⟩
theorem b_Wall_within (x0 : Int32) (x1 : Int32) : M_Wall_within x0 x1 = 0 ∨ M_Wall_within x0 x1 = 1 := by
  unfold M_Wall_within
  (repeat' split) <;> first | exact Or.inl rfl | exact Or.inr rfl
def M_H_error (I : HI) (x1 : Int32) : Option (Int32 × HI) := grd (bnd x1 6) (lt (xu I 87 x1.toNatClampNeg ((I 87 x1.toNatClampNeg) + (1 : Int32))) fun J2 => some (((-1000000000 : Int32) - x1), J2))
theorem s_H_error {G : xG} {d : Nat} (hd : 0 ≤ d) (C : HC) (I : HI) (x1 : Int32)  (r : Int32 × HI) : M_H_error I x1 = some r → kM G d m_H_error [.ref 0, .int x1] C I 0 0 (some (.int r.1)) C r.2 := by
  unfold M_H_error
  refine kM.of (by decide +kernel) (Nat.le_of_ble_eq_true rfl) (lv := [.ref 0, .int x1]) rfl (fun X hX hE => ?_)
  refine kx_go 1 (pc' := 1) (lv' := [.ref 0, .int x1]) (st' := [.ref 0]) hX ok_H_error rfl ?_
  refine kx_getp hX ok_H_error rfl (q := 87) (nx := 4) rfl ?_
  refine kx_go 2 (pc' := 6) (lv' := [.ref 0, .int x1]) (st' := [.int x1, .ref 87, .int x1, .ref 87]) hX ok_H_error rfl ?_
  refine kx_iald hX ok_H_error (w := 6) (nx := 7) rfl (fun b1 => ?_)
  refine kx_go 2 (pc' := 9) (lv' := [.ref 0, .int x1]) (st' := [.int ((I 87 x1.toNatClampNeg) + (1 : Int32)), .int x1, .ref 87]) hX ok_H_error rfl ?_
  refine kx_iastc hX ok_H_error (w := 6) (nx := 10) rfl b1 (k := x1.toNatClampNeg) rfl ?_
  refine kx_lt (Q := fun J2 => kW G X m_H_error C J2 0 0 10 [.ref 0, .int x1] []) (fun J2 eJ2 => ?_)
  refine kx_go 3 (pc' := 14) (lv' := [.ref 0, .int x1]) (st' := [.int ((-1000000000 : Int32) - x1)]) hX ok_H_error rfl ?_
  intro h; have h := Option.some.inj h; subst h
  exact kx_iret hX hE ok_H_error (nx := 15) rfl rfl ⟨Nat.le_of_ble_eq_true rfl, Nat.le_of_ble_eq_true rfl⟩
def M_Stroke_init (I : HI) (q0 : Nat) : HI := lt (xu I q0 5 (9999 : Int32)) fun J1 => J1
theorem s_Stroke_init {G : xG} {d : Nat} (hd : 1 ≤ d) (C : HC) (I : HI) (q0 : Nat) (hq0 : gS C q0 = true) (r : HI) : M_Stroke_init I q0 = r → kM G d m_Stroke_init [.ref q0] C I 0 0 none C r := by
  unfold M_Stroke_init
  refine kM.of (by decide +kernel) (Nat.le_of_ble_eq_true rfl) (lv := [.ref q0]) rfl (fun X hX hE => ?_)
  refine kx_go 1 (pc' := 1) (lv' := [.ref q0]) (st' := [.ref q0]) hX ok_Stroke_init rfl ?_
  refine kx_obj (d := d) hX ok_Stroke_init (nx := 4) rfl l_Stroke_3 (by omega) (Nat.le_of_ble_eq_true rfl) ?_
  refine kx_go 2 (pc' := 8) (lv' := [.ref q0]) (st' := [.int (9999 : Int32), .ref q0]) hX ok_Stroke_init rfl ?_
  refine kx_puts hq0 hX ok_Stroke_init rfl (k := 5) (nx := 11) rfl ?_
  refine kx_lt (Q := fun J1 => kW G X m_Stroke_init C J1 0 0 11 [.ref q0] []) (fun J1 eJ1 => ?_)
  rintro rfl
  exact kx_vret hX hE ok_Stroke_init (nx := 12) rfl rfl ⟨Nat.le_of_ble_eq_true rfl, Nat.le_of_ble_eq_true rfl⟩
def M_Red_init (I : HI) (q0 : Nat) : HI := lt (M_Stroke_init I q0) fun p1 => p1
theorem s_Red_init {G : xG} {d : Nat} (hd : 2 ≤ d) (C : HC) (I : HI) (q0 : Nat) (hq0 : gS C q0 = true) (r : HI) : M_Red_init I q0 = r → kM G d m_Red_init [.ref q0] C I 0 0 none C r := by
  unfold M_Red_init
  refine kM.of (by decide +kernel) (Nat.le_of_ble_eq_true rfl) (lv := [.ref q0]) rfl (fun X hX hE => ?_)
  refine kx_go 1 (pc' := 1) (lv' := [.ref q0]) (st' := [.ref q0]) hX ok_Red_init rfl ?_
  refine kx_lti (fun p1 hp1 => ?_)
  refine kx_I (as := []) hq0 hX ok_Red_init (nx := 4) rfl l_Red_1 rfl (fun _ => s_Stroke_init (G := G) (d := 1) (Nat.le_refl _) C I q0 hq0 p1 hp1) (by omega) rfl (rest := []) rfl (Nat.le_of_ble_eq_true rfl) ⟨Nat.le_of_ble_eq_true rfl, Nat.le_of_ble_eq_true rfl⟩ ?_
  show _ → kW G X m_Red_init C p1 0 0 4 [.ref q0] []
  rintro rfl
  exact kx_vret hX hE ok_Red_init (nx := 5) rfl rfl ⟨Nat.le_of_ble_eq_true rfl, Nat.le_of_ble_eq_true rfl⟩
def M_Black_init (I : HI) (q0 : Nat) : HI := lt (M_Stroke_init I q0) fun p1 => p1
theorem s_Black_init {G : xG} {d : Nat} (hd : 2 ≤ d) (C : HC) (I : HI) (q0 : Nat) (hq0 : gS C q0 = true) (r : HI) : M_Black_init I q0 = r → kM G d m_Black_init [.ref q0] C I 0 0 none C r := by
  unfold M_Black_init
  refine kM.of (by decide +kernel) (Nat.le_of_ble_eq_true rfl) (lv := [.ref q0]) rfl (fun X hX hE => ?_)
  refine kx_go 1 (pc' := 1) (lv' := [.ref q0]) (st' := [.ref q0]) hX ok_Black_init rfl ?_
  refine kx_lti (fun p1 hp1 => ?_)
  refine kx_I (as := []) hq0 hX ok_Black_init (nx := 4) rfl l_Black_1 rfl (fun _ => s_Stroke_init (G := G) (d := 1) (Nat.le_refl _) C I q0 hq0 p1 hp1) (by omega) rfl (rest := []) rfl (Nat.le_of_ble_eq_true rfl) ⟨Nat.le_of_ble_eq_true rfl, Nat.le_of_ble_eq_true rfl⟩ ?_
  show _ → kW G X m_Black_init C p1 0 0 4 [.ref q0] []
  rintro rfl
  exact kx_vret hX hE ok_Black_init (nx := 5) rfl rfl ⟨Nat.le_of_ble_eq_true rfl, Nat.le_of_ble_eq_true rfl⟩
def M_Scratch_init (I : HI) (q0 : Nat) : HI := lt (M_Stroke_init I q0) fun p1 => p1
theorem s_Scratch_init {G : xG} {d : Nat} (hd : 2 ≤ d) (C : HC) (I : HI) (q0 : Nat) (hq0 : gS C q0 = true) (r : HI) : M_Scratch_init I q0 = r → kM G d m_Scratch_init [.ref q0] C I 0 0 none C r := by
  unfold M_Scratch_init
  refine kM.of (by decide +kernel) (Nat.le_of_ble_eq_true rfl) (lv := [.ref q0]) rfl (fun X hX hE => ?_)
  refine kx_go 1 (pc' := 1) (lv' := [.ref q0]) (st' := [.ref q0]) hX ok_Scratch_init rfl ?_
  refine kx_lti (fun p1 hp1 => ?_)
  refine kx_I (as := []) hq0 hX ok_Scratch_init (nx := 4) rfl l_Scratch_1 rfl (fun _ => s_Stroke_init (G := G) (d := 1) (Nat.le_refl _) C I q0 hq0 p1 hp1) (by omega) rfl (rest := []) rfl (Nat.le_of_ble_eq_true rfl) ⟨Nat.le_of_ble_eq_true rfl, Nat.le_of_ble_eq_true rfl⟩ ?_
  show _ → kW G X m_Scratch_init C p1 0 0 4 [.ref q0] []
  rintro rfl
  exact kx_vret hX hE ok_Scratch_init (nx := 5) rfl rfl ⟨Nat.le_of_ble_eq_true rfl, Nat.le_of_ble_eq_true rfl⟩
def M_Child_init (I : HI) (q0 : Nat) : HI := lt (M_Red_init I q0) fun p1 => p1
theorem s_Child_init {G : xG} {d : Nat} (hd : 3 ≤ d) (C : HC) (I : HI) (q0 : Nat) (hq0 : gS C q0 = true) (r : HI) : M_Child_init I q0 = r → kM G d m_Child_init [.ref q0] C I 0 0 none C r := by
  unfold M_Child_init
  refine kM.of (by decide +kernel) (Nat.le_of_ble_eq_true rfl) (lv := [.ref q0]) rfl (fun X hX hE => ?_)
  refine kx_go 1 (pc' := 1) (lv' := [.ref q0]) (st' := [.ref q0]) hX ok_Child_init rfl ?_
  refine kx_lti (fun p1 hp1 => ?_)
  refine kx_I (as := []) hq0 hX ok_Child_init (nx := 4) rfl l_Child_1 rfl (fun _ => s_Red_init (G := G) (d := 2) (Nat.le_refl _) C I q0 hq0 p1 hp1) (by omega) rfl (rest := []) rfl (Nat.le_of_ble_eq_true rfl) ⟨Nat.le_of_ble_eq_true rfl, Nat.le_of_ble_eq_true rfl⟩ ?_
  show _ → kW G X m_Child_init C p1 0 0 4 [.ref q0] []
  rintro rfl
  exact kx_vret hX hE ok_Child_init (nx := 5) rfl rfl ⟨Nat.le_of_ble_eq_true rfl, Nat.le_of_ble_eq_true rfl⟩
def M_Soot_init (I : HI) (q0 : Nat) : HI := lt (M_Black_init I q0) fun p1 => p1
theorem s_Soot_init {G : xG} {d : Nat} (hd : 3 ≤ d) (C : HC) (I : HI) (q0 : Nat) (hq0 : gS C q0 = true) (r : HI) : M_Soot_init I q0 = r → kM G d m_Soot_init [.ref q0] C I 0 0 none C r := by
  unfold M_Soot_init
  refine kM.of (by decide +kernel) (Nat.le_of_ble_eq_true rfl) (lv := [.ref q0]) rfl (fun X hX hE => ?_)
  refine kx_go 1 (pc' := 1) (lv' := [.ref q0]) (st' := [.ref q0]) hX ok_Soot_init rfl ?_
  refine kx_lti (fun p1 hp1 => ?_)
  refine kx_I (as := []) hq0 hX ok_Soot_init (nx := 4) rfl l_Soot_1 rfl (fun _ => s_Black_init (G := G) (d := 2) (Nat.le_refl _) C I q0 hq0 p1 hp1) (by omega) rfl (rest := []) rfl (Nat.le_of_ble_eq_true rfl) ⟨Nat.le_of_ble_eq_true rfl, Nat.le_of_ble_eq_true rfl⟩ ?_
  show _ → kW G X m_Soot_init C p1 0 0 4 [.ref q0] []
  rintro rfl
  exact kx_vret hX hE ok_Soot_init (nx := 5) rfl rfl ⟨Nat.le_of_ble_eq_true rfl, Nat.le_of_ble_eq_true rfl⟩
def M_Forged_init (I : HI) (q0 : Nat) : HI := lt (M_Scratch_init I q0) fun p1 => p1
theorem s_Forged_init {G : xG} {d : Nat} (hd : 3 ≤ d) (C : HC) (I : HI) (q0 : Nat) (hq0 : gS C q0 = true) (r : HI) : M_Forged_init I q0 = r → kM G d m_Forged_init [.ref q0] C I 0 0 none C r := by
  unfold M_Forged_init
  refine kM.of (by decide +kernel) (Nat.le_of_ble_eq_true rfl) (lv := [.ref q0]) rfl (fun X hX hE => ?_)
  refine kx_go 1 (pc' := 1) (lv' := [.ref q0]) (st' := [.ref q0]) hX ok_Forged_init rfl ?_
  refine kx_lti (fun p1 hp1 => ?_)
  refine kx_I (as := []) hq0 hX ok_Forged_init (nx := 4) rfl l_Forged_3 rfl (fun _ => s_Scratch_init (G := G) (d := 2) (Nat.le_refl _) C I q0 hq0 p1 hp1) (by omega) rfl (rest := []) rfl (Nat.le_of_ble_eq_true rfl) ⟨Nat.le_of_ble_eq_true rfl, Nat.le_of_ble_eq_true rfl⟩ ?_
  show _ → kW G X m_Forged_init C p1 0 0 4 [.ref q0] []
  rintro rfl
  exact kx_vret hX hE ok_Forged_init (nx := 5) rfl rfl ⟨Nat.le_of_ble_eq_true rfl, Nat.le_of_ble_eq_true rfl⟩
def M_Wall_blankOfKind (C : HC) (I : HI) (x0 : Int32) : Option (Nat × HC × HI) := if x0 = (1 : Int32) then (grd (Nat.blt (hm C) 800000) (lt (xrow I (107 + hm C) (fun _ => 0)) fun J3 => lt (M_Red_init J3 (107 + hm C)) fun p4 => some ((107 + hm C), (cN C 1), p4))) else (if x0 = (2 : Int32) then (grd (Nat.blt (hm C) 800000) (lt (xrow I (107 + hm C) (fun _ => 0)) fun J7 => lt (M_Black_init J7 (107 + hm C)) fun p8 => some ((107 + hm C), (cN C 2), p8))) else (if x0 = (3 : Int32) then (grd (Nat.blt (hm C) 800000) (lt (xrow I (107 + hm C) (fun _ => 0)) fun J11 => lt (M_Scratch_init J11 (107 + hm C)) fun p12 => some ((107 + hm C), (cN C 3), p12))) else (if x0 = (4 : Int32) then (grd (Nat.blt (hm C) 800000) (lt (xrow I (107 + hm C) (fun _ => 0)) fun J15 => lt (M_Child_init J15 (107 + hm C)) fun p16 => some ((107 + hm C), (cN C 4), p16))) else (if x0 = (5 : Int32) then (grd (Nat.blt (hm C) 800000) (lt (xrow I (107 + hm C) (fun _ => 0)) fun J19 => lt (M_Soot_init J19 (107 + hm C)) fun p20 => some ((107 + hm C), (cN C 5), p20))) else (if x0 = (6 : Int32) then (grd (Nat.blt (hm C) 800000) (lt (xrow I (107 + hm C) (fun _ => 0)) fun J23 => lt (M_Forged_init J23 (107 + hm C)) fun p24 => some ((107 + hm C), (cN C 6), p24))) else (grd (Nat.blt (hm C) 800000) (lt (xrow I (107 + hm C) (fun _ => 0)) fun J26 => lt (M_Stroke_init J26 (107 + hm C)) fun p27 => some ((107 + hm C), (cN C 0), p27))))))))
theorem s_Wall_blankOfKind {G : xG} {d : Nat} (hd : 4 ≤ d) (C : HC) (I : HI) (x0 : Int32)  (r : Nat × HC × HI) : M_Wall_blankOfKind C I x0 = some r → kM G d m_Wall_blankOfKind [.int x0] C I 1 7 (some (.ref r.1)) r.2.1 r.2.2 := by
  unfold M_Wall_blankOfKind
  refine kM.of (by decide +kernel) (Nat.le_of_ble_eq_true rfl) (lv := [.int x0]) rfl (fun X hX hE => ?_)
  refine kx_go 2 (pc' := xtsw x0 [((1 : Int32), 40), ((2 : Int32), 48), ((3 : Int32), 56), ((4 : Int32), 64), ((5 : Int32), 72), ((6 : Int32), 80)] 88) (lv' := [.int x0]) (st' := []) hX ok_Wall_blankOfKind rfl ?_
  refine kx_sw (fun c1 => ?_) (fun c1 => ?_)
  · refine kx_new (c := 1) hX ok_Wall_blankOfKind (nx := 43) rfl (by decide) l_Wall_99 (by decide) (fun hq2 => ?_)
    refine kx_lt (Q := fun J3 => kW G X m_Wall_blankOfKind (cN C 1) J3 (0 + 1) (0 + 7) 43 [.int x0] [.ref (107 + hm C)]) (fun J3 eJ3 => ?_)
    refine kx_go 1 (pc' := 44) (lv' := [.int x0]) (st' := [.ref (107 + hm C), .ref (107 + hm C)]) hX ok_Wall_blankOfKind rfl ?_
    refine kx_lti (fun p4 hp4 => ?_)
    refine kx_I (as := []) hq2 hX ok_Wall_blankOfKind (nx := 47) rfl l_Wall_101 rfl (fun _ => s_Red_init (G := G) (d := 2) (Nat.le_refl _) (cN C 1) J3 (107 + hm C) hq2 p4 hp4) (by omega) rfl (rest := [.ref (107 + hm C)]) rfl (Nat.le_of_ble_eq_true rfl) ⟨Nat.le_of_ble_eq_true rfl, Nat.le_of_ble_eq_true rfl⟩ ?_
    show _ → kW G X m_Wall_blankOfKind (cN C 1) p4 (0 + 1) (0 + 7) 47 [.int x0] [.ref (107 + hm C)]
    intro h; have h := Option.some.inj h; subst h
    exact kx_aret hX hE ok_Wall_blankOfKind (nx := 48) rfl rfl ⟨Nat.le_of_ble_eq_true rfl, Nat.le_of_ble_eq_true rfl⟩
  · refine kx_sw (fun c5 => ?_) (fun c5 => ?_)
    · refine kx_new (c := 2) hX ok_Wall_blankOfKind (nx := 51) rfl (by decide) l_Wall_102 (by decide) (fun hq6 => ?_)
      refine kx_lt (Q := fun J7 => kW G X m_Wall_blankOfKind (cN C 2) J7 (0 + 1) (0 + 7) 51 [.int x0] [.ref (107 + hm C)]) (fun J7 eJ7 => ?_)
      refine kx_go 1 (pc' := 52) (lv' := [.int x0]) (st' := [.ref (107 + hm C), .ref (107 + hm C)]) hX ok_Wall_blankOfKind rfl ?_
      refine kx_lti (fun p8 hp8 => ?_)
      refine kx_I (as := []) hq6 hX ok_Wall_blankOfKind (nx := 55) rfl l_Wall_104 rfl (fun _ => s_Black_init (G := G) (d := 2) (Nat.le_refl _) (cN C 2) J7 (107 + hm C) hq6 p8 hp8) (by omega) rfl (rest := [.ref (107 + hm C)]) rfl (Nat.le_of_ble_eq_true rfl) ⟨Nat.le_of_ble_eq_true rfl, Nat.le_of_ble_eq_true rfl⟩ ?_
      show _ → kW G X m_Wall_blankOfKind (cN C 2) p8 (0 + 1) (0 + 7) 55 [.int x0] [.ref (107 + hm C)]
      intro h; have h := Option.some.inj h; subst h
      exact kx_aret hX hE ok_Wall_blankOfKind (nx := 56) rfl rfl ⟨Nat.le_of_ble_eq_true rfl, Nat.le_of_ble_eq_true rfl⟩
    · refine kx_sw (fun c9 => ?_) (fun c9 => ?_)
      · refine kx_new (c := 3) hX ok_Wall_blankOfKind (nx := 59) rfl (by decide) l_Wall_105 (by decide) (fun hq10 => ?_)
        refine kx_lt (Q := fun J11 => kW G X m_Wall_blankOfKind (cN C 3) J11 (0 + 1) (0 + 7) 59 [.int x0] [.ref (107 + hm C)]) (fun J11 eJ11 => ?_)
        refine kx_go 1 (pc' := 60) (lv' := [.int x0]) (st' := [.ref (107 + hm C), .ref (107 + hm C)]) hX ok_Wall_blankOfKind rfl ?_
        refine kx_lti (fun p12 hp12 => ?_)
        refine kx_I (as := []) hq10 hX ok_Wall_blankOfKind (nx := 63) rfl l_Wall_107 rfl (fun _ => s_Scratch_init (G := G) (d := 2) (Nat.le_refl _) (cN C 3) J11 (107 + hm C) hq10 p12 hp12) (by omega) rfl (rest := [.ref (107 + hm C)]) rfl (Nat.le_of_ble_eq_true rfl) ⟨Nat.le_of_ble_eq_true rfl, Nat.le_of_ble_eq_true rfl⟩ ?_
        show _ → kW G X m_Wall_blankOfKind (cN C 3) p12 (0 + 1) (0 + 7) 63 [.int x0] [.ref (107 + hm C)]
        intro h; have h := Option.some.inj h; subst h
        exact kx_aret hX hE ok_Wall_blankOfKind (nx := 64) rfl rfl ⟨Nat.le_of_ble_eq_true rfl, Nat.le_of_ble_eq_true rfl⟩
      · refine kx_sw (fun c13 => ?_) (fun c13 => ?_)
        · refine kx_new (c := 4) hX ok_Wall_blankOfKind (nx := 67) rfl (by decide) l_Wall_108 (by decide) (fun hq14 => ?_)
          refine kx_lt (Q := fun J15 => kW G X m_Wall_blankOfKind (cN C 4) J15 (0 + 1) (0 + 7) 67 [.int x0] [.ref (107 + hm C)]) (fun J15 eJ15 => ?_)
          refine kx_go 1 (pc' := 68) (lv' := [.int x0]) (st' := [.ref (107 + hm C), .ref (107 + hm C)]) hX ok_Wall_blankOfKind rfl ?_
          refine kx_lti (fun p16 hp16 => ?_)
          refine kx_I (as := []) hq14 hX ok_Wall_blankOfKind (nx := 71) rfl l_Wall_110 rfl (fun _ => s_Child_init (G := G) (d := 3) (Nat.le_refl _) (cN C 4) J15 (107 + hm C) hq14 p16 hp16) (by omega) rfl (rest := [.ref (107 + hm C)]) rfl (Nat.le_of_ble_eq_true rfl) ⟨Nat.le_of_ble_eq_true rfl, Nat.le_of_ble_eq_true rfl⟩ ?_
          show _ → kW G X m_Wall_blankOfKind (cN C 4) p16 (0 + 1) (0 + 7) 71 [.int x0] [.ref (107 + hm C)]
          intro h; have h := Option.some.inj h; subst h
          exact kx_aret hX hE ok_Wall_blankOfKind (nx := 72) rfl rfl ⟨Nat.le_of_ble_eq_true rfl, Nat.le_of_ble_eq_true rfl⟩
        · refine kx_sw (fun c17 => ?_) (fun c17 => ?_)
          · refine kx_new (c := 5) hX ok_Wall_blankOfKind (nx := 75) rfl (by decide) l_Wall_111 (by decide) (fun hq18 => ?_)
            refine kx_lt (Q := fun J19 => kW G X m_Wall_blankOfKind (cN C 5) J19 (0 + 1) (0 + 7) 75 [.int x0] [.ref (107 + hm C)]) (fun J19 eJ19 => ?_)
            refine kx_go 1 (pc' := 76) (lv' := [.int x0]) (st' := [.ref (107 + hm C), .ref (107 + hm C)]) hX ok_Wall_blankOfKind rfl ?_
            refine kx_lti (fun p20 hp20 => ?_)
            refine kx_I (as := []) hq18 hX ok_Wall_blankOfKind (nx := 79) rfl l_Wall_113 rfl (fun _ => s_Soot_init (G := G) (d := 3) (Nat.le_refl _) (cN C 5) J19 (107 + hm C) hq18 p20 hp20) (by omega) rfl (rest := [.ref (107 + hm C)]) rfl (Nat.le_of_ble_eq_true rfl) ⟨Nat.le_of_ble_eq_true rfl, Nat.le_of_ble_eq_true rfl⟩ ?_
            show _ → kW G X m_Wall_blankOfKind (cN C 5) p20 (0 + 1) (0 + 7) 79 [.int x0] [.ref (107 + hm C)]
            intro h; have h := Option.some.inj h; subst h
            exact kx_aret hX hE ok_Wall_blankOfKind (nx := 80) rfl rfl ⟨Nat.le_of_ble_eq_true rfl, Nat.le_of_ble_eq_true rfl⟩
          · refine kx_sw (fun c21 => ?_) (fun c21 => ?_)
            · refine kx_new (c := 6) hX ok_Wall_blankOfKind (nx := 83) rfl (by decide) l_Wall_114 (by decide) (fun hq22 => ?_)
              refine kx_lt (Q := fun J23 => kW G X m_Wall_blankOfKind (cN C 6) J23 (0 + 1) (0 + 7) 83 [.int x0] [.ref (107 + hm C)]) (fun J23 eJ23 => ?_)
              refine kx_go 1 (pc' := 84) (lv' := [.int x0]) (st' := [.ref (107 + hm C), .ref (107 + hm C)]) hX ok_Wall_blankOfKind rfl ?_
              refine kx_lti (fun p24 hp24 => ?_)
              refine kx_I (as := []) hq22 hX ok_Wall_blankOfKind (nx := 87) rfl l_Wall_116 rfl (fun _ => s_Forged_init (G := G) (d := 3) (Nat.le_refl _) (cN C 6) J23 (107 + hm C) hq22 p24 hp24) (by omega) rfl (rest := [.ref (107 + hm C)]) rfl (Nat.le_of_ble_eq_true rfl) ⟨Nat.le_of_ble_eq_true rfl, Nat.le_of_ble_eq_true rfl⟩ ?_
              show _ → kW G X m_Wall_blankOfKind (cN C 6) p24 (0 + 1) (0 + 7) 87 [.int x0] [.ref (107 + hm C)]
              intro h; have h := Option.some.inj h; subst h
              exact kx_aret hX hE ok_Wall_blankOfKind (nx := 88) rfl rfl ⟨Nat.le_of_ble_eq_true rfl, Nat.le_of_ble_eq_true rfl⟩
            · refine kx_sw0 ?_
              refine kx_new (c := 0) hX ok_Wall_blankOfKind (nx := 91) rfl (by decide) l_Wall_9 (by decide) (fun hq25 => ?_)
              refine kx_lt (Q := fun J26 => kW G X m_Wall_blankOfKind (cN C 0) J26 (0 + 1) (0 + 7) 91 [.int x0] [.ref (107 + hm C)]) (fun J26 eJ26 => ?_)
              refine kx_go 1 (pc' := 92) (lv' := [.int x0]) (st' := [.ref (107 + hm C), .ref (107 + hm C)]) hX ok_Wall_blankOfKind rfl ?_
              refine kx_lti (fun p27 hp27 => ?_)
              refine kx_I (as := []) hq25 hX ok_Wall_blankOfKind (nx := 95) rfl l_Wall_17 rfl (fun _ => s_Stroke_init (G := G) (d := 1) (Nat.le_refl _) (cN C 0) J26 (107 + hm C) hq25 p27 hp27) (by omega) rfl (rest := [.ref (107 + hm C)]) rfl (Nat.le_of_ble_eq_true rfl) ⟨Nat.le_of_ble_eq_true rfl, Nat.le_of_ble_eq_true rfl⟩ ?_
              show _ → kW G X m_Wall_blankOfKind (cN C 0) p27 (0 + 1) (0 + 7) 95 [.int x0] [.ref (107 + hm C)]
              intro h; have h := Option.some.inj h; subst h
              exact kx_aret hX hE ok_Wall_blankOfKind (nx := 96) rfl rfl ⟨Nat.le_of_ble_eq_true rfl, Nat.le_of_ble_eq_true rfl⟩
def M_Wall_addStroke (C : HC) (I : HI) (x1 : Int32) (x2 : Int32) (x3 : Int32) : Option (Int32 × HC × HI) := Option.bind (M_Wall_blankOfKind C I (x1 / (10 : Int32))) fun p1 => grd (gS p1.2.1 p1.1) (lt (xu p1.2.2 p1.1 0 (I 1 1)) fun J3 => lt (xu J3 p1.1 1 (x1 - x1 / (10 : Int32) * (10 : Int32))) fun J4 => lt (xu J4 p1.1 2 x2) fun J5 => lt (xu J5 p1.1 3 x3) fun J6 => grd (bnd (I 1 1) 8) (lt (xu J6 1 1 ((J6 1 1) + (1 : Int32))) fun J7 => some ((I 1 1), (cT p1.2.1 (I 1 1).toNatClampNeg p1.1), J7)))
theorem s_Wall_addStroke {G : xG} {d : Nat} (hd : 5 ≤ d) (C : HC) (I : HI) (x1 : Int32) (x2 : Int32) (x3 : Int32)  (r : Int32 × HC × HI) : M_Wall_addStroke C I x1 x2 x3 = some r → kM G d m_Wall_addStroke [.ref 1, .int x1, .int x2, .int x3] C I 1 7 (some (.int r.1)) r.2.1 r.2.2 := by
  unfold M_Wall_addStroke
  refine kM.of (by decide +kernel) (Nat.le_of_ble_eq_true rfl) (lv := [.ref 1, .int x1, .int x2, .int x3, .null, .null]) rfl (fun X hX hE => ?_)
  refine kx_go 1 (pc' := 1) (lv' := [.ref 1, .int x1, .int x2, .int x3, .null, .null]) (st' := [.ref 1]) hX ok_Wall_addStroke rfl ?_
  refine kx_geti hX ok_Wall_addStroke rfl (k := 1) (nx := 4) rfl ?_
  refine kx_go 3 (pc' := 9) (lv' := [.ref 1, .int x1, .int x2, .int x3, .int (I 1 1), .null]) (st' := [.int (10 : Int32), .int x1]) hX ok_Wall_addStroke rfl ?_
  refine kx_idivc hX ok_Wall_addStroke (nx := 10) rfl (by decide) ?_
  refine kx_bind (fun p1 hp1 => ?_)
  refine kx_S (as := [.int (x1 / (10 : Int32))]) hX ok_Wall_addStroke (nx := 13) rfl l_Wall_117 (fun _ => s_Wall_blankOfKind (G := G) (d := 4) (Nat.le_refl _) C I (x1 / (10 : Int32)) p1 hp1) (by omega) rfl (rest := []) rfl (Nat.le_of_ble_eq_true rfl) ⟨Nat.le_of_ble_eq_true rfl, Nat.le_of_ble_eq_true rfl⟩ ?_
  show _ → kW G X m_Wall_addStroke p1.2.1 p1.2.2 (0 + 1) (0 + 7) 13 [.ref 1, .int x1, .int x2, .int x3, .int (I 1 1), .null] [.ref p1.1]
  refine kx_grd (fun hq2 => ?_)
  refine kx_go 3 (pc' := 19) (lv' := [.ref 1, .int x1, .int x2, .int x3, .int (I 1 1), .ref p1.1]) (st' := [.int (I 1 1), .ref p1.1]) hX ok_Wall_addStroke rfl ?_
  refine kx_puts hq2 hX ok_Wall_addStroke rfl (k := 0) (nx := 22) rfl ?_
  refine kx_lt (Q := fun J3 => kW G X m_Wall_addStroke p1.2.1 J3 (0 + 1) (0 + 7) 22 [.ref 1, .int x1, .int x2, .int x3, .int (I 1 1), .ref p1.1] []) (fun J3 eJ3 => ?_)
  refine kx_go 3 (pc' := 27) (lv' := [.ref 1, .int x1, .int x2, .int x3, .int (I 1 1), .ref p1.1]) (st' := [.int (10 : Int32), .int x1, .ref p1.1]) hX ok_Wall_addStroke rfl ?_
  refine kx_iremc hX ok_Wall_addStroke (nx := 28) rfl (by decide) ?_
  refine kx_puts hq2 hX ok_Wall_addStroke rfl (k := 1) (nx := 31) rfl ?_
  refine kx_lt (Q := fun J4 => kW G X m_Wall_addStroke p1.2.1 J4 (0 + 1) (0 + 7) 31 [.ref 1, .int x1, .int x2, .int x3, .int (I 1 1), .ref p1.1] []) (fun J4 eJ4 => ?_)
  refine kx_go 2 (pc' := 34) (lv' := [.ref 1, .int x1, .int x2, .int x3, .int (I 1 1), .ref p1.1]) (st' := [.int x2, .ref p1.1]) hX ok_Wall_addStroke rfl ?_
  refine kx_puts hq2 hX ok_Wall_addStroke rfl (k := 2) (nx := 37) rfl ?_
  refine kx_lt (Q := fun J5 => kW G X m_Wall_addStroke p1.2.1 J5 (0 + 1) (0 + 7) 37 [.ref 1, .int x1, .int x2, .int x3, .int (I 1 1), .ref p1.1] []) (fun J5 eJ5 => ?_)
  refine kx_go 2 (pc' := 40) (lv' := [.ref 1, .int x1, .int x2, .int x3, .int (I 1 1), .ref p1.1]) (st' := [.int x3, .ref p1.1]) hX ok_Wall_addStroke rfl ?_
  refine kx_puts hq2 hX ok_Wall_addStroke rfl (k := 3) (nx := 43) rfl ?_
  refine kx_lt (Q := fun J6 => kW G X m_Wall_addStroke p1.2.1 J6 (0 + 1) (0 + 7) 43 [.ref 1, .int x1, .int x2, .int x3, .int (I 1 1), .ref p1.1] []) (fun J6 eJ6 => ?_)
  refine kx_go 1 (pc' := 44) (lv' := [.ref 1, .int x1, .int x2, .int x3, .int (I 1 1), .ref p1.1]) (st' := [.ref 1]) hX ok_Wall_addStroke rfl ?_
  refine kx_getp hX ok_Wall_addStroke rfl (q := 2) (nx := 47) rfl ?_
  refine kx_go 2 (pc' := 51) (lv' := [.ref 1, .int x1, .int x2, .int x3, .int (I 1 1), .ref p1.1]) (st' := [.ref p1.1, .int (I 1 1), .ref 2]) hX ok_Wall_addStroke rfl ?_
  refine kx_asT hq2 hX ok_Wall_addStroke (nx := 52) rfl ?_
  refine kx_go 2 (pc' := 54) (lv' := [.ref 1, .int x1, .int x2, .int x3, .int (I 1 1), .ref p1.1]) (st' := [.ref 1, .ref 1]) hX ok_Wall_addStroke rfl ?_
  refine kx_geti hX ok_Wall_addStroke rfl (k := 1) (nx := 57) rfl ?_
  refine kx_go 2 (pc' := 59) (lv' := [.ref 1, .int x1, .int x2, .int x3, .int (I 1 1), .ref p1.1]) (st' := [.int ((J6 1 1) + (1 : Int32)), .ref 1]) hX ok_Wall_addStroke rfl ?_
  refine kx_puti hX ok_Wall_addStroke rfl (k := 1) (nx := 62) rfl rfl ?_
  refine kx_lt (Q := fun J7 => kW G X m_Wall_addStroke (cT p1.2.1 (I 1 1).toNatClampNeg p1.1) J7 (0 + 1) (0 + 7) 62 [.ref 1, .int x1, .int x2, .int x3, .int (I 1 1), .ref p1.1] []) (fun J7 eJ7 => ?_)
  refine kx_go 1 (pc' := 64) (lv' := [.ref 1, .int x1, .int x2, .int x3, .int (I 1 1), .ref p1.1]) (st' := [.int (I 1 1)]) hX ok_Wall_addStroke rfl ?_
  intro h; have h := Option.some.inj h; subst h
  exact kx_iret hX hE ok_Wall_addStroke (nx := 65) rfl rfl ⟨Nat.le_of_ble_eq_true rfl, Nat.le_of_ble_eq_true rfl⟩
def M_H_stroke (C : HC) (I : HI) (x1 : Int32) (x2 : Int32) (x3 : Int32) : Option (Int32 × HC × HI) := if (M_Wall_within x1 (69 : Int32)) = (0 : Int32) then (Option.bind (M_H_error I (1 : Int32)) fun p2 => some (p2.1, C, p2.2)) else (if (M_Wall_within x2 (35 : Int32)) = (0 : Int32) then (Option.bind (M_H_error I (1 : Int32)) fun p4 => some (p4.1, C, p4.2)) else (if (M_Wall_within x3 (99 : Int32)) = (0 : Int32) then (Option.bind (M_H_error I (1 : Int32)) fun p6 => some (p6.1, C, p6.2)) else (if (I 1 1) < (8 : Int32) then (Option.bind (M_Wall_addStroke C I x1 x2 x3) fun p8 => some (p8.1, p8.2.1, p8.2.2)) else (Option.bind (M_H_error I (4 : Int32)) fun p9 => some (p9.1, C, p9.2)))))
theorem s_H_stroke {G : xG} {d : Nat} (hd : 6 ≤ d) (C : HC) (I : HI) (x1 : Int32) (x2 : Int32) (x3 : Int32)  (r : Int32 × HC × HI) : M_H_stroke C I x1 x2 x3 = some r → kM G d m_H_stroke [.ref 0, .int x1, .int x2, .int x3] C I 1 7 (some (.int r.1)) r.2.1 r.2.2 := by
  unfold M_H_stroke
  refine kM.of (by decide +kernel) (Nat.le_of_ble_eq_true rfl) (lv := [.ref 0, .int x1, .int x2, .int x3]) rfl (fun X hX hE => ?_)
  refine kx_go 2 (pc' := 3) (lv' := [.ref 0, .int x1, .int x2, .int x3]) (st' := [.int (69 : Int32), .int x1]) hX ok_H_stroke rfl ?_
  refine kx_S (as := [.int x1, .int (69 : Int32)]) hX ok_H_stroke (nx := 6) rfl l_H_56 (fun _ => s_Wall_within (G := G) (d := 0) (Nat.le_refl _) C I x1 (69 : Int32) _ rfl) (by omega) rfl (rest := []) rfl (Nat.le_of_ble_eq_true rfl) ⟨Nat.le_of_ble_eq_true rfl, Nat.le_of_ble_eq_true rfl⟩ ?_
  show _ → kW G X m_H_stroke C I 0 0 6 [.ref 0, .int x1, .int x2, .int x3] [.int (M_Wall_within x1 (69 : Int32))]
  refine kx_go 1 (pc' := if (M_Wall_within x1 (69 : Int32)) = (0 : Int32) then 27 else 9) (lv' := [.ref 0, .int x1, .int x2, .int x3]) (st' := []) hX ok_H_stroke rfl ?_
  refine kx_ite (fun c1 => ?_) (fun c1 => ?_)
  · refine kx_go 2 (pc' := 29) (lv' := [.ref 0, .int x1, .int x2, .int x3]) (st' := [.int (1 : Int32), .ref 0]) hX ok_H_stroke rfl ?_
    refine kx_bind (fun p2 hp2 => ?_)
    refine kx_V (r := 0) (as := [.int (1 : Int32)]) (by decide) hX ok_H_stroke (nx := 32) rfl l_H_60 (by decide) rfl (fun _ => s_H_error (G := G) (d := 0) (Nat.le_refl _) C I (1 : Int32) p2 hp2) (by omega) rfl (rest := []) rfl (Nat.le_of_ble_eq_true rfl) ⟨Nat.le_of_ble_eq_true rfl, Nat.le_of_ble_eq_true rfl⟩ ?_
    show _ → kW G X m_H_stroke C p2.2 0 0 32 [.ref 0, .int x1, .int x2, .int x3] [.int p2.1]
    intro h; have h := Option.some.inj h; subst h
    exact kx_iret hX hE ok_H_stroke (nx := 33) rfl rfl ⟨Nat.le_of_ble_eq_true rfl, Nat.le_of_ble_eq_true rfl⟩
  · refine kx_go 2 (pc' := 12) (lv' := [.ref 0, .int x1, .int x2, .int x3]) (st' := [.int (35 : Int32), .int x2]) hX ok_H_stroke rfl ?_
    refine kx_S (as := [.int x2, .int (35 : Int32)]) hX ok_H_stroke (nx := 15) rfl l_H_56 (fun _ => s_Wall_within (G := G) (d := 0) (Nat.le_refl _) C I x2 (35 : Int32) _ rfl) (by omega) rfl (rest := []) rfl (Nat.le_of_ble_eq_true rfl) ⟨Nat.le_of_ble_eq_true rfl, Nat.le_of_ble_eq_true rfl⟩ ?_
    show _ → kW G X m_H_stroke C I 0 0 15 [.ref 0, .int x1, .int x2, .int x3] [.int (M_Wall_within x2 (35 : Int32))]
    refine kx_go 1 (pc' := if (M_Wall_within x2 (35 : Int32)) = (0 : Int32) then 27 else 18) (lv' := [.ref 0, .int x1, .int x2, .int x3]) (st' := []) hX ok_H_stroke rfl ?_
    refine kx_ite (fun c3 => ?_) (fun c3 => ?_)
    · refine kx_go 2 (pc' := 29) (lv' := [.ref 0, .int x1, .int x2, .int x3]) (st' := [.int (1 : Int32), .ref 0]) hX ok_H_stroke rfl ?_
      refine kx_bind (fun p4 hp4 => ?_)
      refine kx_V (r := 0) (as := [.int (1 : Int32)]) (by decide) hX ok_H_stroke (nx := 32) rfl l_H_60 (by decide) rfl (fun _ => s_H_error (G := G) (d := 0) (Nat.le_refl _) C I (1 : Int32) p4 hp4) (by omega) rfl (rest := []) rfl (Nat.le_of_ble_eq_true rfl) ⟨Nat.le_of_ble_eq_true rfl, Nat.le_of_ble_eq_true rfl⟩ ?_
      show _ → kW G X m_H_stroke C p4.2 0 0 32 [.ref 0, .int x1, .int x2, .int x3] [.int p4.1]
      intro h; have h := Option.some.inj h; subst h
      exact kx_iret hX hE ok_H_stroke (nx := 33) rfl rfl ⟨Nat.le_of_ble_eq_true rfl, Nat.le_of_ble_eq_true rfl⟩
    · refine kx_go 2 (pc' := 21) (lv' := [.ref 0, .int x1, .int x2, .int x3]) (st' := [.int (99 : Int32), .int x3]) hX ok_H_stroke rfl ?_
      refine kx_S (as := [.int x3, .int (99 : Int32)]) hX ok_H_stroke (nx := 24) rfl l_H_56 (fun _ => s_Wall_within (G := G) (d := 0) (Nat.le_refl _) C I x3 (99 : Int32) _ rfl) (by omega) rfl (rest := []) rfl (Nat.le_of_ble_eq_true rfl) ⟨Nat.le_of_ble_eq_true rfl, Nat.le_of_ble_eq_true rfl⟩ ?_
      show _ → kW G X m_H_stroke C I 0 0 24 [.ref 0, .int x1, .int x2, .int x3] [.int (M_Wall_within x3 (99 : Int32))]
      refine kx_go 1 (pc' := if (M_Wall_within x3 (99 : Int32)) = (0 : Int32) then 27 else 33) (lv' := [.ref 0, .int x1, .int x2, .int x3]) (st' := []) hX ok_H_stroke rfl ?_
      refine kx_ite (fun c5 => ?_) (fun c5 => ?_)
      · refine kx_go 2 (pc' := 29) (lv' := [.ref 0, .int x1, .int x2, .int x3]) (st' := [.int (1 : Int32), .ref 0]) hX ok_H_stroke rfl ?_
        refine kx_bind (fun p6 hp6 => ?_)
        refine kx_V (r := 0) (as := [.int (1 : Int32)]) (by decide) hX ok_H_stroke (nx := 32) rfl l_H_60 (by decide) rfl (fun _ => s_H_error (G := G) (d := 0) (Nat.le_refl _) C I (1 : Int32) p6 hp6) (by omega) rfl (rest := []) rfl (Nat.le_of_ble_eq_true rfl) ⟨Nat.le_of_ble_eq_true rfl, Nat.le_of_ble_eq_true rfl⟩ ?_
        show _ → kW G X m_H_stroke C p6.2 0 0 32 [.ref 0, .int x1, .int x2, .int x3] [.int p6.1]
        intro h; have h := Option.some.inj h; subst h
        exact kx_iret hX hE ok_H_stroke (nx := 33) rfl rfl ⟨Nat.le_of_ble_eq_true rfl, Nat.le_of_ble_eq_true rfl⟩
      · refine kx_go 1 (pc' := 34) (lv' := [.ref 0, .int x1, .int x2, .int x3]) (st' := [.ref 0]) hX ok_H_stroke rfl ?_
        refine kx_getp hX ok_H_stroke rfl (q := 1) (nx := 37) rfl ?_
        refine kx_geti hX ok_H_stroke rfl (k := 1) (nx := 40) rfl ?_
        refine kx_go 2 (pc' := if (I 1 1) < (8 : Int32) then 51 else 45) (lv' := [.ref 0, .int x1, .int x2, .int x3]) (st' := []) hX ok_H_stroke rfl ?_
        refine kx_ite (fun c7 => ?_) (fun c7 => ?_)
        · refine kx_go 1 (pc' := 52) (lv' := [.ref 0, .int x1, .int x2, .int x3]) (st' := [.ref 0]) hX ok_H_stroke rfl ?_
          refine kx_getp hX ok_H_stroke rfl (q := 1) (nx := 55) rfl ?_
          refine kx_go 3 (pc' := 58) (lv' := [.ref 0, .int x1, .int x2, .int x3]) (st' := [.int x3, .int x2, .int x1, .ref 1]) hX ok_H_stroke rfl ?_
          refine kx_bind (fun p8 hp8 => ?_)
          refine kx_V (r := 1) (as := [.int x1, .int x2, .int x3]) (by decide) hX ok_H_stroke (nx := 61) rfl l_H_67 (by decide) rfl (fun _ => s_Wall_addStroke (G := G) (d := 5) (Nat.le_refl _) C I x1 x2 x3 p8 hp8) (by omega) rfl (rest := []) rfl (Nat.le_of_ble_eq_true rfl) ⟨Nat.le_of_ble_eq_true rfl, Nat.le_of_ble_eq_true rfl⟩ ?_
          show _ → kW G X m_H_stroke p8.2.1 p8.2.2 (0 + 1) (0 + 7) 61 [.ref 0, .int x1, .int x2, .int x3] [.int p8.1]
          intro h; have h := Option.some.inj h; subst h
          exact kx_iret hX hE ok_H_stroke (nx := 62) rfl rfl ⟨Nat.le_of_ble_eq_true rfl, Nat.le_of_ble_eq_true rfl⟩
        · refine kx_go 2 (pc' := 47) (lv' := [.ref 0, .int x1, .int x2, .int x3]) (st' := [.int (4 : Int32), .ref 0]) hX ok_H_stroke rfl ?_
          refine kx_bind (fun p9 hp9 => ?_)
          refine kx_V (r := 0) (as := [.int (4 : Int32)]) (by decide) hX ok_H_stroke (nx := 50) rfl l_H_60 (by decide) rfl (fun _ => s_H_error (G := G) (d := 0) (Nat.le_refl _) C I (4 : Int32) p9 hp9) (by omega) rfl (rest := []) rfl (Nat.le_of_ble_eq_true rfl) ⟨Nat.le_of_ble_eq_true rfl, Nat.le_of_ble_eq_true rfl⟩ ?_
          show _ → kW G X m_H_stroke C p9.2 0 0 50 [.ref 0, .int x1, .int x2, .int x3] [.int p9.1]
          intro h; have h := Option.some.inj h; subst h
          exact kx_iret hX hE ok_H_stroke (nx := 51) rfl rfl ⟨Nat.le_of_ble_eq_true rfl, Nat.le_of_ble_eq_true rfl⟩
def M_Wall_hasStroke (I : HI) (x1 : Int32) : Int32 := if x1 < (0 : Int32) then ((0 : Int32)) else (if (I 1 1) ≤ x1 then ((0 : Int32)) else ((1 : Int32)))
theorem s_Wall_hasStroke {G : xG} {d : Nat} (hd : 0 ≤ d) (C : HC) (I : HI) (x1 : Int32)  (r : Int32) : M_Wall_hasStroke I x1 = r → kM G d m_Wall_hasStroke [.ref 1, .int x1] C I 0 0 (some (.int r)) C I := by
  unfold M_Wall_hasStroke
  refine kM.of (by decide +kernel) (Nat.le_of_ble_eq_true rfl) (lv := [.ref 1, .int x1]) rfl (fun X hX hE => ?_)
  refine kx_go 2 (pc' := if x1 < (0 : Int32) then 16 else 4) (lv' := [.ref 1, .int x1]) (st' := []) hX ok_Wall_hasStroke rfl ?_
  refine kx_ite (fun c1 => ?_) (fun c1 => ?_)
  · refine kx_go 1 (pc' := 17) (lv' := [.ref 1, .int x1]) (st' := [.int (0 : Int32)]) hX ok_Wall_hasStroke rfl ?_
    rintro rfl
    exact kx_zret hX hE ok_Wall_hasStroke (nx := 18) rfl rfl (Or.inl rfl) ⟨Nat.le_of_ble_eq_true rfl, Nat.le_of_ble_eq_true rfl⟩
  · refine kx_go 2 (pc' := 6) (lv' := [.ref 1, .int x1]) (st' := [.ref 1, .int x1]) hX ok_Wall_hasStroke rfl ?_
    refine kx_geti hX ok_Wall_hasStroke rfl (k := 1) (nx := 9) rfl ?_
    refine kx_go 1 (pc' := if (I 1 1) ≤ x1 then 16 else 12) (lv' := [.ref 1, .int x1]) (st' := []) hX ok_Wall_hasStroke rfl ?_
    refine kx_ite (fun c2 => ?_) (fun c2 => ?_)
    · refine kx_go 1 (pc' := 17) (lv' := [.ref 1, .int x1]) (st' := [.int (0 : Int32)]) hX ok_Wall_hasStroke rfl ?_
      rintro rfl
      exact kx_zret hX hE ok_Wall_hasStroke (nx := 18) rfl rfl (Or.inl rfl) ⟨Nat.le_of_ble_eq_true rfl, Nat.le_of_ble_eq_true rfl⟩
    · refine kx_go 2 (pc' := 17) (lv' := [.ref 1, .int x1]) (st' := [.int (1 : Int32)]) hX ok_Wall_hasStroke rfl ?_
      rintro rfl
      exact kx_zret hX hE ok_Wall_hasStroke (nx := 18) rfl rfl (Or.inr rfl) ⟨Nat.le_of_ble_eq_true rfl, Nat.le_of_ble_eq_true rfl⟩
def M_Stroke_kind (q0 : Nat) : Int32 := (0 : Int32)
theorem s_Stroke_kind {G : xG} {d : Nat} (hd : 0 ≤ d) (C : HC) (I : HI) (q0 : Nat) (hq0 : gS C q0 = true) (r : Int32) : M_Stroke_kind q0 = r → kM G d m_Stroke_kind [.ref q0] C I 0 0 (some (.int r)) C I := by
  unfold M_Stroke_kind
  refine kM.of (by decide +kernel) (Nat.le_of_ble_eq_true rfl) (lv := [.ref q0]) rfl (fun X hX hE => ?_)
  refine kx_go 1 (pc' := 1) (lv' := [.ref q0]) (st' := [.int (0 : Int32)]) hX ok_Stroke_kind rfl ?_
  rintro rfl
  exact kx_iret hX hE ok_Stroke_kind (nx := 2) rfl rfl ⟨Nat.le_of_ble_eq_true rfl, Nat.le_of_ble_eq_true rfl⟩
def M_Red_kind (q0 : Nat) : Int32 := (1 : Int32)
theorem s_Red_kind {G : xG} {d : Nat} (hd : 0 ≤ d) (C : HC) (I : HI) (q0 : Nat) (hq0 : gS C q0 = true) (r : Int32) : M_Red_kind q0 = r → kM G d m_Red_kind [.ref q0] C I 0 0 (some (.int r)) C I := by
  unfold M_Red_kind
  refine kM.of (by decide +kernel) (Nat.le_of_ble_eq_true rfl) (lv := [.ref q0]) rfl (fun X hX hE => ?_)
  refine kx_go 1 (pc' := 1) (lv' := [.ref q0]) (st' := [.int (1 : Int32)]) hX ok_Red_kind rfl ?_
  rintro rfl
  exact kx_iret hX hE ok_Red_kind (nx := 2) rfl rfl ⟨Nat.le_of_ble_eq_true rfl, Nat.le_of_ble_eq_true rfl⟩
def M_Black_kind (q0 : Nat) : Int32 := (2 : Int32)
theorem s_Black_kind {G : xG} {d : Nat} (hd : 0 ≤ d) (C : HC) (I : HI) (q0 : Nat) (hq0 : gS C q0 = true) (r : Int32) : M_Black_kind q0 = r → kM G d m_Black_kind [.ref q0] C I 0 0 (some (.int r)) C I := by
  unfold M_Black_kind
  refine kM.of (by decide +kernel) (Nat.le_of_ble_eq_true rfl) (lv := [.ref q0]) rfl (fun X hX hE => ?_)
  refine kx_go 1 (pc' := 1) (lv' := [.ref q0]) (st' := [.int (2 : Int32)]) hX ok_Black_kind rfl ?_
  rintro rfl
  exact kx_iret hX hE ok_Black_kind (nx := 2) rfl rfl ⟨Nat.le_of_ble_eq_true rfl, Nat.le_of_ble_eq_true rfl⟩
def M_Scratch_kind (q0 : Nat) : Int32 := (3 : Int32)
theorem s_Scratch_kind {G : xG} {d : Nat} (hd : 0 ≤ d) (C : HC) (I : HI) (q0 : Nat) (hq0 : gS C q0 = true) (r : Int32) : M_Scratch_kind q0 = r → kM G d m_Scratch_kind [.ref q0] C I 0 0 (some (.int r)) C I := by
  unfold M_Scratch_kind
  refine kM.of (by decide +kernel) (Nat.le_of_ble_eq_true rfl) (lv := [.ref q0]) rfl (fun X hX hE => ?_)
  refine kx_go 1 (pc' := 1) (lv' := [.ref q0]) (st' := [.int (3 : Int32)]) hX ok_Scratch_kind rfl ?_
  rintro rfl
  exact kx_iret hX hE ok_Scratch_kind (nx := 2) rfl rfl ⟨Nat.le_of_ble_eq_true rfl, Nat.le_of_ble_eq_true rfl⟩
def M_Child_kind (q0 : Nat) : Int32 := (4 : Int32)
theorem s_Child_kind {G : xG} {d : Nat} (hd : 0 ≤ d) (C : HC) (I : HI) (q0 : Nat) (hq0 : gS C q0 = true) (r : Int32) : M_Child_kind q0 = r → kM G d m_Child_kind [.ref q0] C I 0 0 (some (.int r)) C I := by
  unfold M_Child_kind
  refine kM.of (by decide +kernel) (Nat.le_of_ble_eq_true rfl) (lv := [.ref q0]) rfl (fun X hX hE => ?_)
  refine kx_go 1 (pc' := 1) (lv' := [.ref q0]) (st' := [.int (4 : Int32)]) hX ok_Child_kind rfl ?_
  rintro rfl
  exact kx_iret hX hE ok_Child_kind (nx := 2) rfl rfl ⟨Nat.le_of_ble_eq_true rfl, Nat.le_of_ble_eq_true rfl⟩
def M_Soot_kind (q0 : Nat) : Int32 := (5 : Int32)
theorem s_Soot_kind {G : xG} {d : Nat} (hd : 0 ≤ d) (C : HC) (I : HI) (q0 : Nat) (hq0 : gS C q0 = true) (r : Int32) : M_Soot_kind q0 = r → kM G d m_Soot_kind [.ref q0] C I 0 0 (some (.int r)) C I := by
  unfold M_Soot_kind
  refine kM.of (by decide +kernel) (Nat.le_of_ble_eq_true rfl) (lv := [.ref q0]) rfl (fun X hX hE => ?_)
  refine kx_go 1 (pc' := 1) (lv' := [.ref q0]) (st' := [.int (5 : Int32)]) hX ok_Soot_kind rfl ?_
  rintro rfl
  exact kx_iret hX hE ok_Soot_kind (nx := 2) rfl rfl ⟨Nat.le_of_ble_eq_true rfl, Nat.le_of_ble_eq_true rfl⟩
def M_Forged_kind (q0 : Nat) : Int32 := (6 : Int32)
theorem s_Forged_kind {G : xG} {d : Nat} (hd : 0 ≤ d) (C : HC) (I : HI) (q0 : Nat) (hq0 : gS C q0 = true) (r : Int32) : M_Forged_kind q0 = r → kM G d m_Forged_kind [.ref q0] C I 0 0 (some (.int r)) C I := by
  unfold M_Forged_kind
  refine kM.of (by decide +kernel) (Nat.le_of_ble_eq_true rfl) (lv := [.ref q0]) rfl (fun X hX hE => ?_)
  refine kx_go 1 (pc' := 2) (lv' := [.ref q0]) (st' := [.int (6 : Int32)]) hX ok_Forged_kind rfl ?_
  rintro rfl
  exact kx_iret hX hE ok_Forged_kind (nx := 3) rfl rfl ⟨Nat.le_of_ble_eq_true rfl, Nat.le_of_ble_eq_true rfl⟩
def M_Vkind (C : HC) (q0 : Nat) : Int32 := if kc C q0 = 0 then M_Stroke_kind q0 else if kc C q0 = 1 then M_Red_kind q0 else if kc C q0 = 2 then M_Black_kind q0 else if kc C q0 = 3 then M_Scratch_kind q0 else if kc C q0 = 4 then M_Child_kind q0 else if kc C q0 = 5 then M_Soot_kind q0 else M_Forged_kind q0
theorem s_Vkind {G : xG} {d : Nat} (hd : 0 ≤ d) (C : HC) (I : HI) (q0 : Nat) (hq0 : gS C q0 = true) (r : Int32) : M_Vkind C q0 = r → kM G d (sel_kind (kc C q0)) [.ref q0] C I 0 0 (some (.int r)) C I := by
  unfold M_Vkind
  refine kx_if (fun h0 => ?_) (fun h0 => ?_)
  · rw [show sel_kind (kc C q0) = m_Stroke_kind by rw [h0]; rfl]
    exact s_Stroke_kind (by omega) C I q0 hq0 _
  ·
    refine kx_if (fun h1 => ?_) (fun h1 => ?_)
    · rw [show sel_kind (kc C q0) = m_Red_kind by rw [h1]; rfl]
      exact s_Red_kind (by omega) C I q0 hq0 _
    ·
      refine kx_if (fun h2 => ?_) (fun h2 => ?_)
      · rw [show sel_kind (kc C q0) = m_Black_kind by rw [h2]; rfl]
        exact s_Black_kind (by omega) C I q0 hq0 _
      ·
        refine kx_if (fun h3 => ?_) (fun h3 => ?_)
        · rw [show sel_kind (kc C q0) = m_Scratch_kind by rw [h3]; rfl]
          exact s_Scratch_kind (by omega) C I q0 hq0 _
        ·
          refine kx_if (fun h4 => ?_) (fun h4 => ?_)
          · rw [show sel_kind (kc C q0) = m_Child_kind by rw [h4]; rfl]
            exact s_Child_kind (by omega) C I q0 hq0 _
          ·
            refine kx_if (fun h5 => ?_) (fun h5 => ?_)
            · rw [show sel_kind (kc C q0) = m_Soot_kind by rw [h5]; rfl]
              exact s_Soot_kind (by omega) C I q0 hq0 _
            ·
              have h6 : kc C q0 = 6 := by have := gS_k hq0; omega
              rw [show sel_kind (kc C q0) = m_Forged_kind by rw [h6]; rfl]
              exact s_Forged_kind (by omega) C I q0 hq0 _
def M_Stroke_part (I : HI) (q0 : Nat) (x1 : Int32) : Int32 := if x1 = (1 : Int32) then ((I q0 1)) else (if x1 = (2 : Int32) then ((I q0 2)) else (if x1 = (3 : Int32) then ((I q0 3)) else (if x1 = (4 : Int32) then ((I q0 4)) else (if x1 = (5 : Int32) then ((I q0 5)) else ((I q0 6))))))
theorem s_Stroke_part {G : xG} {d : Nat} (hd : 0 ≤ d) (C : HC) (I : HI) (q0 : Nat) (x1 : Int32) (hq0 : gS C q0 = true) (r : Int32) : M_Stroke_part I q0 x1 = r → kM G d m_Stroke_part [.ref q0, .int x1] C I 0 0 (some (.int r)) C I := by
  unfold M_Stroke_part
  refine kM.of (by decide +kernel) (Nat.le_of_ble_eq_true rfl) (lv := [.ref q0, .int x1]) rfl (fun X hX hE => ?_)
  refine kx_go 2 (pc' := xtsw x1 [((1 : Int32), 36), ((2 : Int32), 41), ((3 : Int32), 46), ((4 : Int32), 51), ((5 : Int32), 56)] 61) (lv' := [.ref q0, .int x1]) (st' := []) hX ok_Stroke_part rfl ?_
  refine kx_sw (fun c1 => ?_) (fun c1 => ?_)
  · refine kx_go 1 (pc' := 37) (lv' := [.ref q0, .int x1]) (st' := [.ref q0]) hX ok_Stroke_part rfl ?_
    refine kx_gets hq0 hX ok_Stroke_part rfl (k := 1) (nx := 40) rfl ?_
    rintro rfl
    exact kx_iret hX hE ok_Stroke_part (nx := 41) rfl rfl ⟨Nat.le_of_ble_eq_true rfl, Nat.le_of_ble_eq_true rfl⟩
  · refine kx_sw (fun c2 => ?_) (fun c2 => ?_)
    · refine kx_go 1 (pc' := 42) (lv' := [.ref q0, .int x1]) (st' := [.ref q0]) hX ok_Stroke_part rfl ?_
      refine kx_gets hq0 hX ok_Stroke_part rfl (k := 2) (nx := 45) rfl ?_
      rintro rfl
      exact kx_iret hX hE ok_Stroke_part (nx := 46) rfl rfl ⟨Nat.le_of_ble_eq_true rfl, Nat.le_of_ble_eq_true rfl⟩
    · refine kx_sw (fun c3 => ?_) (fun c3 => ?_)
      · refine kx_go 1 (pc' := 47) (lv' := [.ref q0, .int x1]) (st' := [.ref q0]) hX ok_Stroke_part rfl ?_
        refine kx_gets hq0 hX ok_Stroke_part rfl (k := 3) (nx := 50) rfl ?_
        rintro rfl
        exact kx_iret hX hE ok_Stroke_part (nx := 51) rfl rfl ⟨Nat.le_of_ble_eq_true rfl, Nat.le_of_ble_eq_true rfl⟩
      · refine kx_sw (fun c4 => ?_) (fun c4 => ?_)
        · refine kx_go 1 (pc' := 52) (lv' := [.ref q0, .int x1]) (st' := [.ref q0]) hX ok_Stroke_part rfl ?_
          refine kx_gets hq0 hX ok_Stroke_part rfl (k := 4) (nx := 55) rfl ?_
          rintro rfl
          exact kx_iret hX hE ok_Stroke_part (nx := 56) rfl rfl ⟨Nat.le_of_ble_eq_true rfl, Nat.le_of_ble_eq_true rfl⟩
        · refine kx_sw (fun c5 => ?_) (fun c5 => ?_)
          · refine kx_go 1 (pc' := 57) (lv' := [.ref q0, .int x1]) (st' := [.ref q0]) hX ok_Stroke_part rfl ?_
            refine kx_gets hq0 hX ok_Stroke_part rfl (k := 5) (nx := 60) rfl ?_
            rintro rfl
            exact kx_iret hX hE ok_Stroke_part (nx := 61) rfl rfl ⟨Nat.le_of_ble_eq_true rfl, Nat.le_of_ble_eq_true rfl⟩
          · refine kx_sw0 ?_
            refine kx_go 1 (pc' := 62) (lv' := [.ref q0, .int x1]) (st' := [.ref q0]) hX ok_Stroke_part rfl ?_
            refine kx_gets hq0 hX ok_Stroke_part rfl (k := 6) (nx := 65) rfl ?_
            rintro rfl
            exact kx_iret hX hE ok_Stroke_part (nx := 66) rfl rfl ⟨Nat.le_of_ble_eq_true rfl, Nat.le_of_ble_eq_true rfl⟩
def M_Vpart (C : HC) (I : HI) (q0 : Nat) (x1 : Int32) : Int32 := if kc C q0 = 0 then M_Stroke_part I q0 x1 else if kc C q0 = 1 then M_Stroke_part I q0 x1 else if kc C q0 = 2 then M_Stroke_part I q0 x1 else if kc C q0 = 3 then M_Stroke_part I q0 x1 else if kc C q0 = 4 then M_Stroke_part I q0 x1 else if kc C q0 = 5 then M_Stroke_part I q0 x1 else M_Stroke_part I q0 x1
theorem s_Vpart {G : xG} {d : Nat} (hd : 0 ≤ d) (C : HC) (I : HI) (q0 : Nat) (x1 : Int32) (hq0 : gS C q0 = true) (r : Int32) : M_Vpart C I q0 x1 = r → kM G d (sel_part (kc C q0)) [.ref q0, .int x1] C I 0 0 (some (.int r)) C I := by
  unfold M_Vpart
  refine kx_if (fun h0 => ?_) (fun h0 => ?_)
  · rw [show sel_part (kc C q0) = m_Stroke_part by rw [h0]; rfl]
    exact s_Stroke_part (by omega) C I q0 x1 hq0 _
  ·
    refine kx_if (fun h1 => ?_) (fun h1 => ?_)
    · rw [show sel_part (kc C q0) = m_Stroke_part by rw [h1]; rfl]
      exact s_Stroke_part (by omega) C I q0 x1 hq0 _
    ·
      refine kx_if (fun h2 => ?_) (fun h2 => ?_)
      · rw [show sel_part (kc C q0) = m_Stroke_part by rw [h2]; rfl]
        exact s_Stroke_part (by omega) C I q0 x1 hq0 _
      ·
        refine kx_if (fun h3 => ?_) (fun h3 => ?_)
        · rw [show sel_part (kc C q0) = m_Stroke_part by rw [h3]; rfl]
          exact s_Stroke_part (by omega) C I q0 x1 hq0 _
        ·
          refine kx_if (fun h4 => ?_) (fun h4 => ?_)
          · rw [show sel_part (kc C q0) = m_Stroke_part by rw [h4]; rfl]
            exact s_Stroke_part (by omega) C I q0 x1 hq0 _
          ·
            refine kx_if (fun h5 => ?_) (fun h5 => ?_)
            · rw [show sel_part (kc C q0) = m_Stroke_part by rw [h5]; rfl]
              exact s_Stroke_part (by omega) C I q0 x1 hq0 _
            ·
              have h6 : kc C q0 = 6 := by have := gS_k hq0; omega
              rw [show sel_part (kc C q0) = m_Stroke_part by rw [h6]; rfl]
              exact s_Stroke_part (by omega) C I q0 x1 hq0 _
def M_Stroke_early (I : HI) (q0 : Nat) : Int32 := (I q0 4)
theorem s_Stroke_early {G : xG} {d : Nat} (hd : 0 ≤ d) (C : HC) (I : HI) (q0 : Nat) (hq0 : gS C q0 = true) (r : Int32) : M_Stroke_early I q0 = r → kM G d m_Stroke_early [.ref q0] C I 0 0 (some (.int r)) C I := by
  unfold M_Stroke_early
  refine kM.of (by decide +kernel) (Nat.le_of_ble_eq_true rfl) (lv := [.ref q0]) rfl (fun X hX hE => ?_)
  refine kx_go 1 (pc' := 1) (lv' := [.ref q0]) (st' := [.ref q0]) hX ok_Stroke_early rfl ?_
  refine kx_gets hq0 hX ok_Stroke_early rfl (k := 4) (nx := 4) rfl ?_
  rintro rfl
  exact kx_iret hX hE ok_Stroke_early (nx := 5) rfl rfl ⟨Nat.le_of_ble_eq_true rfl, Nat.le_of_ble_eq_true rfl⟩
def M_Red_early (I : HI) (q0 : Nat) : Int32 := ((M_Stroke_early I q0) + (I q0 1))
theorem s_Red_early {G : xG} {d : Nat} (hd : 1 ≤ d) (C : HC) (I : HI) (q0 : Nat) (hq0 : gS C q0 = true) (r : Int32) : M_Red_early I q0 = r → kM G d m_Red_early [.ref q0] C I 0 0 (some (.int r)) C I := by
  unfold M_Red_early
  refine kM.of (by decide +kernel) (Nat.le_of_ble_eq_true rfl) (lv := [.ref q0]) rfl (fun X hX hE => ?_)
  refine kx_go 1 (pc' := 1) (lv' := [.ref q0]) (st' := [.ref q0]) hX ok_Red_early rfl ?_
  refine kx_SU (as := []) hq0 hX ok_Red_early (nx := 4) rfl l_Red_11 (fun _ => s_Stroke_early (G := G) (d := 0) (Nat.le_refl _) C I q0 hq0 _ rfl) (by omega) rfl (rest := []) rfl (Nat.le_of_ble_eq_true rfl) ⟨Nat.le_of_ble_eq_true rfl, Nat.le_of_ble_eq_true rfl⟩ ?_
  show _ → kW G X m_Red_early C I 0 0 4 [.ref q0] [.int (M_Stroke_early I q0)]
  refine kx_go 1 (pc' := 5) (lv' := [.ref q0]) (st' := [.ref q0, .int (M_Stroke_early I q0)]) hX ok_Red_early rfl ?_
  refine kx_gets hq0 hX ok_Red_early rfl (k := 1) (nx := 8) rfl ?_
  refine kx_go 1 (pc' := 9) (lv' := [.ref q0]) (st' := [.int ((M_Stroke_early I q0) + (I q0 1))]) hX ok_Red_early rfl ?_
  rintro rfl
  exact kx_iret hX hE ok_Red_early (nx := 10) rfl rfl ⟨Nat.le_of_ble_eq_true rfl, Nat.le_of_ble_eq_true rfl⟩
def M_Scratch_early (I : HI) (q0 : Nat) : Int32 := ((M_Stroke_early I q0) - ((10 : Int32) * (I q0 1)))
theorem s_Scratch_early {G : xG} {d : Nat} (hd : 1 ≤ d) (C : HC) (I : HI) (q0 : Nat) (hq0 : gS C q0 = true) (r : Int32) : M_Scratch_early I q0 = r → kM G d m_Scratch_early [.ref q0] C I 0 0 (some (.int r)) C I := by
  unfold M_Scratch_early
  refine kM.of (by decide +kernel) (Nat.le_of_ble_eq_true rfl) (lv := [.ref q0]) rfl (fun X hX hE => ?_)
  refine kx_go 1 (pc' := 1) (lv' := [.ref q0]) (st' := [.ref q0]) hX ok_Scratch_early rfl ?_
  refine kx_SU (as := []) hq0 hX ok_Scratch_early (nx := 4) rfl l_Scratch_11 (fun _ => s_Stroke_early (G := G) (d := 0) (Nat.le_refl _) C I q0 hq0 _ rfl) (by omega) rfl (rest := []) rfl (Nat.le_of_ble_eq_true rfl) ⟨Nat.le_of_ble_eq_true rfl, Nat.le_of_ble_eq_true rfl⟩ ?_
  show _ → kW G X m_Scratch_early C I 0 0 4 [.ref q0] [.int (M_Stroke_early I q0)]
  refine kx_go 2 (pc' := 7) (lv' := [.ref q0]) (st' := [.ref q0, .int (10 : Int32), .int (M_Stroke_early I q0)]) hX ok_Scratch_early rfl ?_
  refine kx_gets hq0 hX ok_Scratch_early rfl (k := 1) (nx := 10) rfl ?_
  refine kx_go 2 (pc' := 12) (lv' := [.ref q0]) (st' := [.int ((M_Stroke_early I q0) - ((10 : Int32) * (I q0 1)))]) hX ok_Scratch_early rfl ?_
  rintro rfl
  exact kx_iret hX hE ok_Scratch_early (nx := 13) rfl rfl ⟨Nat.le_of_ble_eq_true rfl, Nat.le_of_ble_eq_true rfl⟩
def M_Child_early (I : HI) (q0 : Nat) : Int32 := ((M_Red_early I q0) + (50 : Int32))
theorem s_Child_early {G : xG} {d : Nat} (hd : 2 ≤ d) (C : HC) (I : HI) (q0 : Nat) (hq0 : gS C q0 = true) (r : Int32) : M_Child_early I q0 = r → kM G d m_Child_early [.ref q0] C I 0 0 (some (.int r)) C I := by
  unfold M_Child_early
  refine kM.of (by decide +kernel) (Nat.le_of_ble_eq_true rfl) (lv := [.ref q0]) rfl (fun X hX hE => ?_)
  refine kx_go 1 (pc' := 1) (lv' := [.ref q0]) (st' := [.ref q0]) hX ok_Child_early rfl ?_
  refine kx_SU (as := []) hq0 hX ok_Child_early (nx := 4) rfl l_Child_11 (fun _ => s_Red_early (G := G) (d := 1) (Nat.le_refl _) C I q0 hq0 _ rfl) (by omega) rfl (rest := []) rfl (Nat.le_of_ble_eq_true rfl) ⟨Nat.le_of_ble_eq_true rfl, Nat.le_of_ble_eq_true rfl⟩ ?_
  show _ → kW G X m_Child_early C I 0 0 4 [.ref q0] [.int (M_Red_early I q0)]
  refine kx_go 2 (pc' := 7) (lv' := [.ref q0]) (st' := [.int ((M_Red_early I q0) + (50 : Int32))]) hX ok_Child_early rfl ?_
  rintro rfl
  exact kx_iret hX hE ok_Child_early (nx := 8) rfl rfl ⟨Nat.le_of_ble_eq_true rfl, Nat.le_of_ble_eq_true rfl⟩
def M_Soot_early (I : HI) (q0 : Nat) : Int32 := ((M_Stroke_early I q0) + (I q0 6))
theorem s_Soot_early {G : xG} {d : Nat} (hd : 1 ≤ d) (C : HC) (I : HI) (q0 : Nat) (hq0 : gS C q0 = true) (r : Int32) : M_Soot_early I q0 = r → kM G d m_Soot_early [.ref q0] C I 0 0 (some (.int r)) C I := by
  unfold M_Soot_early
  refine kM.of (by decide +kernel) (Nat.le_of_ble_eq_true rfl) (lv := [.ref q0]) rfl (fun X hX hE => ?_)
  refine kx_go 1 (pc' := 1) (lv' := [.ref q0]) (st' := [.ref q0]) hX ok_Soot_early rfl ?_
  refine kx_SX (as := []) hq0 hX ok_Soot_early (nx := 4) rfl l_Soot_11 (fun _ => s_Stroke_early (G := G) (d := 0) (Nat.le_refl _) C I q0 hq0 _ rfl) (by omega) rfl (rest := []) rfl (Nat.le_of_ble_eq_true rfl) ⟨Nat.le_of_ble_eq_true rfl, Nat.le_of_ble_eq_true rfl⟩ ?_
  show _ → kW G X m_Soot_early C I 0 0 4 [.ref q0] [.int (M_Stroke_early I q0)]
  refine kx_go 1 (pc' := 5) (lv' := [.ref q0]) (st' := [.ref q0, .int (M_Stroke_early I q0)]) hX ok_Soot_early rfl ?_
  refine kx_gets hq0 hX ok_Soot_early rfl (k := 6) (nx := 8) rfl ?_
  refine kx_go 1 (pc' := 9) (lv' := [.ref q0]) (st' := [.int ((M_Stroke_early I q0) + (I q0 6))]) hX ok_Soot_early rfl ?_
  rintro rfl
  exact kx_iret hX hE ok_Soot_early (nx := 10) rfl rfl ⟨Nat.le_of_ble_eq_true rfl, Nat.le_of_ble_eq_true rfl⟩
def M_Forged_early (I : HI) (q0 : Nat) : Int32 := (mmax (M_Scratch_early I q0) (5000 : Int32))
theorem s_Forged_early {G : xG} {d : Nat} (hd : 2 ≤ d) (C : HC) (I : HI) (q0 : Nat) (hq0 : gS C q0 = true) (r : Int32) : M_Forged_early I q0 = r → kM G d m_Forged_early [.ref q0] C I 0 0 (some (.int r)) C I := by
  unfold M_Forged_early
  refine kM.of (by decide +kernel) (Nat.le_of_ble_eq_true rfl) (lv := [.ref q0]) rfl (fun X hX hE => ?_)
  refine kx_go 1 (pc' := 1) (lv' := [.ref q0]) (st' := [.ref q0]) hX ok_Forged_early rfl ?_
  refine kx_SU (as := []) hq0 hX ok_Forged_early (nx := 4) rfl l_Forged_13 (fun _ => s_Scratch_early (G := G) (d := 1) (Nat.le_refl _) C I q0 hq0 _ rfl) (by omega) rfl (rest := []) rfl (Nat.le_of_ble_eq_true rfl) ⟨Nat.le_of_ble_eq_true rfl, Nat.le_of_ble_eq_true rfl⟩ ?_
  show _ → kW G X m_Forged_early C I 0 0 4 [.ref q0] [.int (M_Scratch_early I q0)]
  refine kx_go 1 (pc' := 7) (lv' := [.ref q0]) (st' := [.int (5000 : Int32), .int (M_Scratch_early I q0)]) hX ok_Forged_early rfl ?_
  refine kx_max (d := d) (by omega) ⟨Nat.le_of_ble_eq_true rfl, Nat.le_of_ble_eq_true rfl⟩ hX ok_Forged_early (nx := 10) rfl l_Forged_17 (Nat.le_of_ble_eq_true rfl) ?_
  rintro rfl
  exact kx_iret hX hE ok_Forged_early (nx := 11) rfl rfl ⟨Nat.le_of_ble_eq_true rfl, Nat.le_of_ble_eq_true rfl⟩
def M_Vearly (C : HC) (I : HI) (q0 : Nat) : Int32 := if kc C q0 = 0 then M_Stroke_early I q0 else if kc C q0 = 1 then M_Red_early I q0 else if kc C q0 = 2 then M_Stroke_early I q0 else if kc C q0 = 3 then M_Scratch_early I q0 else if kc C q0 = 4 then M_Child_early I q0 else if kc C q0 = 5 then M_Soot_early I q0 else M_Forged_early I q0
theorem s_Vearly {G : xG} {d : Nat} (hd : 2 ≤ d) (C : HC) (I : HI) (q0 : Nat) (hq0 : gS C q0 = true) (r : Int32) : M_Vearly C I q0 = r → kM G d (sel_early (kc C q0)) [.ref q0] C I 0 0 (some (.int r)) C I := by
  unfold M_Vearly
  refine kx_if (fun h0 => ?_) (fun h0 => ?_)
  · rw [show sel_early (kc C q0) = m_Stroke_early by rw [h0]; rfl]
    exact s_Stroke_early (by omega) C I q0 hq0 _
  ·
    refine kx_if (fun h1 => ?_) (fun h1 => ?_)
    · rw [show sel_early (kc C q0) = m_Red_early by rw [h1]; rfl]
      exact s_Red_early (by omega) C I q0 hq0 _
    ·
      refine kx_if (fun h2 => ?_) (fun h2 => ?_)
      · rw [show sel_early (kc C q0) = m_Stroke_early by rw [h2]; rfl]
        exact s_Stroke_early (by omega) C I q0 hq0 _
      ·
        refine kx_if (fun h3 => ?_) (fun h3 => ?_)
        · rw [show sel_early (kc C q0) = m_Scratch_early by rw [h3]; rfl]
          exact s_Scratch_early (by omega) C I q0 hq0 _
        ·
          refine kx_if (fun h4 => ?_) (fun h4 => ?_)
          · rw [show sel_early (kc C q0) = m_Child_early by rw [h4]; rfl]
            exact s_Child_early (by omega) C I q0 hq0 _
          ·
            refine kx_if (fun h5 => ?_) (fun h5 => ?_)
            · rw [show sel_early (kc C q0) = m_Soot_early by rw [h5]; rfl]
              exact s_Soot_early (by omega) C I q0 hq0 _
            ·
              have h6 : kc C q0 = 6 := by have := gS_k hq0; omega
              rw [show sel_early (kc C q0) = m_Forged_early by rw [h6]; rfl]
              exact s_Forged_early (by omega) C I q0 hq0 _
def M_Text_isEmpty (I : HI) : Int32 := if (I 16 2) = (0 : Int32) then ((1 : Int32)) else ((0 : Int32))
theorem s_Text_isEmpty {G : xG} {d : Nat} (hd : 0 ≤ d) (C : HC) (I : HI)   (r : Int32) : M_Text_isEmpty I = r → kM G d m_Text_isEmpty [.ref 16] C I 0 0 (some (.int r)) C I := by
  unfold M_Text_isEmpty
  refine kM.of (by decide +kernel) (Nat.le_of_ble_eq_true rfl) (lv := [.ref 16]) rfl (fun X hX hE => ?_)
  refine kx_go 1 (pc' := 1) (lv' := [.ref 16]) (st' := [.ref 16]) hX ok_Text_isEmpty rfl ?_
  refine kx_geti hX ok_Text_isEmpty rfl (k := 2) (nx := 4) rfl ?_
  refine kx_go 1 (pc' := if (I 16 2) = (0 : Int32) then 7 else 11) (lv' := [.ref 16]) (st' := []) hX ok_Text_isEmpty rfl ?_
  refine kx_ite (fun c1 => ?_) (fun c1 => ?_)
  · refine kx_go 2 (pc' := 12) (lv' := [.ref 16]) (st' := [.int (1 : Int32)]) hX ok_Text_isEmpty rfl ?_
    rintro rfl
    exact kx_zret hX hE ok_Text_isEmpty (nx := 13) rfl rfl (Or.inr rfl) ⟨Nat.le_of_ble_eq_true rfl, Nat.le_of_ble_eq_true rfl⟩
  · refine kx_go 1 (pc' := 12) (lv' := [.ref 16]) (st' := [.int (0 : Int32)]) hX ok_Text_isEmpty rfl ?_
    rintro rfl
    exact kx_zret hX hE ok_Text_isEmpty (nx := 13) rfl rfl (Or.inl rfl) ⟨Nat.le_of_ble_eq_true rfl, Nat.le_of_ble_eq_true rfl⟩
def M_Text_named (x0 : Int32) (x1 : Int32) (x2 : Int32) (x3 : Int32) (x4 : Int32) : Int32 := if x0 = (0 : Int32) then (x1) else (if x0 = (1 : Int32) then (x2) else (if x0 = (2 : Int32) then (x3) else (x4)))
theorem s_Text_named {G : xG} {d : Nat} (hd : 0 ≤ d) (C : HC) (I : HI) (x0 : Int32) (x1 : Int32) (x2 : Int32) (x3 : Int32) (x4 : Int32)  (r : Int32) : M_Text_named x0 x1 x2 x3 x4 = r → kM G d m_Text_named [.int x0, .int x1, .int x2, .int x3, .int x4] C I 0 0 (some (.int r)) C I := by
  unfold M_Text_named
  refine kM.of (by decide +kernel) (Nat.le_of_ble_eq_true rfl) (lv := [.int x0, .int x1, .int x2, .int x3, .int x4]) rfl (fun X hX hE => ?_)
  refine kx_go 2 (pc' := xtsw x0 [((0 : Int32), 28), ((1 : Int32), 30), ((2 : Int32), 32)] 34) (lv' := [.int x0, .int x1, .int x2, .int x3, .int x4]) (st' := []) hX ok_Text_named rfl ?_
  refine kx_sw (fun c1 => ?_) (fun c1 => ?_)
  · refine kx_go 1 (pc' := 29) (lv' := [.int x0, .int x1, .int x2, .int x3, .int x4]) (st' := [.int x1]) hX ok_Text_named rfl ?_
    rintro rfl
    exact kx_iret hX hE ok_Text_named (nx := 30) rfl rfl ⟨Nat.le_of_ble_eq_true rfl, Nat.le_of_ble_eq_true rfl⟩
  · refine kx_sw (fun c2 => ?_) (fun c2 => ?_)
    · refine kx_go 1 (pc' := 31) (lv' := [.int x0, .int x1, .int x2, .int x3, .int x4]) (st' := [.int x2]) hX ok_Text_named rfl ?_
      rintro rfl
      exact kx_iret hX hE ok_Text_named (nx := 32) rfl rfl ⟨Nat.le_of_ble_eq_true rfl, Nat.le_of_ble_eq_true rfl⟩
    · refine kx_sw (fun c3 => ?_) (fun c3 => ?_)
      · refine kx_go 1 (pc' := 33) (lv' := [.int x0, .int x1, .int x2, .int x3, .int x4]) (st' := [.int x3]) hX ok_Text_named rfl ?_
        rintro rfl
        exact kx_iret hX hE ok_Text_named (nx := 34) rfl rfl ⟨Nat.le_of_ble_eq_true rfl, Nat.le_of_ble_eq_true rfl⟩
      · refine kx_sw0 ?_
        refine kx_go 1 (pc' := 36) (lv' := [.int x0, .int x1, .int x2, .int x3, .int x4]) (st' := [.int x4]) hX ok_Text_named rfl ?_
        rintro rfl
        exact kx_iret hX hE ok_Text_named (nx := 37) rfl rfl ⟨Nat.le_of_ble_eq_true rfl, Nat.le_of_ble_eq_true rfl⟩
def M_Text_joined (x0 : Int32) (x1 : Int32) (x2 : Int32) : Option (Int32) := if x0 = (38 : Int32) then (if x1 = (0 : Int32) then (some (0 : Int32)) else (if x2 = (0 : Int32) then (some (0 : Int32)) else (some (1 : Int32)))) else (if x0 = (42 : Int32) then (some (x1 * x2)) else (if x0 = (43 : Int32) then (some (x1 + x2)) else (if x0 = (45 : Int32) then (some (x1 - x2)) else (if x0 = (47 : Int32) then (if x2 = (0 : Int32) then (some (0 : Int32)) else (grd (decide (x2 ≠ 0)) (some (x1 / x2)))) else (if x0 = (60 : Int32) then (if x2 ≤ x1 then (some (0 : Int32)) else (some (1 : Int32))) else (if x0 = (61 : Int32) then (if x1 = x2 then (some (1 : Int32)) else (some (0 : Int32))) else (if x0 = (62 : Int32) then (if x1 ≤ x2 then (some (0 : Int32)) else (some (1 : Int32))) else (if x0 = (124 : Int32) then (if x1 = (0 : Int32) then (if x2 = (0 : Int32) then (some (0 : Int32)) else (some (1 : Int32))) else (some (1 : Int32))) else (if x2 = (0 : Int32) then (some (0 : Int32)) else (grd (decide (x2 ≠ 0)) (some (x1 - x1 / x2 * x2))))))))))))
theorem s_Text_joined {G : xG} {d : Nat} (hd : 0 ≤ d) (C : HC) (I : HI) (x0 : Int32) (x1 : Int32) (x2 : Int32)  (r : Int32) : M_Text_joined x0 x1 x2 = some r → kM G d m_Text_joined [.int x0, .int x1, .int x2] C I 0 0 (some (.int r)) C I := by
  unfold M_Text_joined
  refine kM.of (by decide +kernel) (Nat.le_of_ble_eq_true rfl) (lv := [.int x0, .int x1, .int x2]) rfl (fun X hX hE => ?_)
  refine kx_go 2 (pc' := xtsw x0 [((38 : Int32), 98), ((42 : Int32), 153), ((43 : Int32), 145), ((45 : Int32), 149), ((47 : Int32), 157), ((60 : Int32), 112), ((61 : Int32), 123), ((62 : Int32), 134), ((124 : Int32), 84)] 169) (lv' := [.int x0, .int x1, .int x2]) (st' := []) hX ok_Text_joined rfl ?_
  refine kx_sw (fun c1 => ?_) (fun c1 => ?_)
  · refine kx_go 2 (pc' := if x1 = (0 : Int32) then 110 else 102) (lv' := [.int x0, .int x1, .int x2]) (st' := []) hX ok_Text_joined rfl ?_
    refine kx_ite (fun c2 => ?_) (fun c2 => ?_)
    · refine kx_go 1 (pc' := 111) (lv' := [.int x0, .int x1, .int x2]) (st' := [.int (0 : Int32)]) hX ok_Text_joined rfl ?_
      intro h; have h := Option.some.inj h; subst h
      exact kx_iret hX hE ok_Text_joined (nx := 112) rfl rfl ⟨Nat.le_of_ble_eq_true rfl, Nat.le_of_ble_eq_true rfl⟩
    · refine kx_go 2 (pc' := if x2 = (0 : Int32) then 110 else 106) (lv' := [.int x0, .int x1, .int x2]) (st' := []) hX ok_Text_joined rfl ?_
      refine kx_ite (fun c3 => ?_) (fun c3 => ?_)
      · refine kx_go 1 (pc' := 111) (lv' := [.int x0, .int x1, .int x2]) (st' := [.int (0 : Int32)]) hX ok_Text_joined rfl ?_
        intro h; have h := Option.some.inj h; subst h
        exact kx_iret hX hE ok_Text_joined (nx := 112) rfl rfl ⟨Nat.le_of_ble_eq_true rfl, Nat.le_of_ble_eq_true rfl⟩
      · refine kx_go 2 (pc' := 111) (lv' := [.int x0, .int x1, .int x2]) (st' := [.int (1 : Int32)]) hX ok_Text_joined rfl ?_
        intro h; have h := Option.some.inj h; subst h
        exact kx_iret hX hE ok_Text_joined (nx := 112) rfl rfl ⟨Nat.le_of_ble_eq_true rfl, Nat.le_of_ble_eq_true rfl⟩
  · refine kx_sw (fun c4 => ?_) (fun c4 => ?_)
    · refine kx_go 3 (pc' := 156) (lv' := [.int x0, .int x1, .int x2]) (st' := [.int (x1 * x2)]) hX ok_Text_joined rfl ?_
      intro h; have h := Option.some.inj h; subst h
      exact kx_iret hX hE ok_Text_joined (nx := 157) rfl rfl ⟨Nat.le_of_ble_eq_true rfl, Nat.le_of_ble_eq_true rfl⟩
    · refine kx_sw (fun c5 => ?_) (fun c5 => ?_)
      · refine kx_go 3 (pc' := 148) (lv' := [.int x0, .int x1, .int x2]) (st' := [.int (x1 + x2)]) hX ok_Text_joined rfl ?_
        intro h; have h := Option.some.inj h; subst h
        exact kx_iret hX hE ok_Text_joined (nx := 149) rfl rfl ⟨Nat.le_of_ble_eq_true rfl, Nat.le_of_ble_eq_true rfl⟩
      · refine kx_sw (fun c6 => ?_) (fun c6 => ?_)
        · refine kx_go 3 (pc' := 152) (lv' := [.int x0, .int x1, .int x2]) (st' := [.int (x1 - x2)]) hX ok_Text_joined rfl ?_
          intro h; have h := Option.some.inj h; subst h
          exact kx_iret hX hE ok_Text_joined (nx := 153) rfl rfl ⟨Nat.le_of_ble_eq_true rfl, Nat.le_of_ble_eq_true rfl⟩
        · refine kx_sw (fun c7 => ?_) (fun c7 => ?_)
          · refine kx_go 2 (pc' := if x2 = (0 : Int32) then 161 else 165) (lv' := [.int x0, .int x1, .int x2]) (st' := []) hX ok_Text_joined rfl ?_
            refine kx_ite (fun c8 => ?_) (fun c8 => ?_)
            · refine kx_go 2 (pc' := 168) (lv' := [.int x0, .int x1, .int x2]) (st' := [.int (0 : Int32)]) hX ok_Text_joined rfl ?_
              intro h; have h := Option.some.inj h; subst h
              exact kx_iret hX hE ok_Text_joined (nx := 169) rfl rfl ⟨Nat.le_of_ble_eq_true rfl, Nat.le_of_ble_eq_true rfl⟩
            · refine kx_go 2 (pc' := 167) (lv' := [.int x0, .int x1, .int x2]) (st' := [.int x2, .int x1]) hX ok_Text_joined rfl ?_
              refine kx_idiv hX ok_Text_joined (nx := 168) rfl (fun h9 => ?_)
              intro h; have h := Option.some.inj h; subst h
              exact kx_iret hX hE ok_Text_joined (nx := 169) rfl rfl ⟨Nat.le_of_ble_eq_true rfl, Nat.le_of_ble_eq_true rfl⟩
          · refine kx_sw (fun c10 => ?_) (fun c10 => ?_)
            · refine kx_go 3 (pc' := if x2 ≤ x1 then 121 else 117) (lv' := [.int x0, .int x1, .int x2]) (st' := []) hX ok_Text_joined rfl ?_
              refine kx_ite (fun c11 => ?_) (fun c11 => ?_)
              · refine kx_go 1 (pc' := 122) (lv' := [.int x0, .int x1, .int x2]) (st' := [.int (0 : Int32)]) hX ok_Text_joined rfl ?_
                intro h; have h := Option.some.inj h; subst h
                exact kx_iret hX hE ok_Text_joined (nx := 123) rfl rfl ⟨Nat.le_of_ble_eq_true rfl, Nat.le_of_ble_eq_true rfl⟩
              · refine kx_go 2 (pc' := 122) (lv' := [.int x0, .int x1, .int x2]) (st' := [.int (1 : Int32)]) hX ok_Text_joined rfl ?_
                intro h; have h := Option.some.inj h; subst h
                exact kx_iret hX hE ok_Text_joined (nx := 123) rfl rfl ⟨Nat.le_of_ble_eq_true rfl, Nat.le_of_ble_eq_true rfl⟩
            · refine kx_sw (fun c12 => ?_) (fun c12 => ?_)
              · refine kx_go 3 (pc' := if x1 = x2 then 128 else 132) (lv' := [.int x0, .int x1, .int x2]) (st' := []) hX ok_Text_joined rfl ?_
                refine kx_ite (fun c13 => ?_) (fun c13 => ?_)
                · refine kx_go 2 (pc' := 133) (lv' := [.int x0, .int x1, .int x2]) (st' := [.int (1 : Int32)]) hX ok_Text_joined rfl ?_
                  intro h; have h := Option.some.inj h; subst h
                  exact kx_iret hX hE ok_Text_joined (nx := 134) rfl rfl ⟨Nat.le_of_ble_eq_true rfl, Nat.le_of_ble_eq_true rfl⟩
                · refine kx_go 1 (pc' := 133) (lv' := [.int x0, .int x1, .int x2]) (st' := [.int (0 : Int32)]) hX ok_Text_joined rfl ?_
                  intro h; have h := Option.some.inj h; subst h
                  exact kx_iret hX hE ok_Text_joined (nx := 134) rfl rfl ⟨Nat.le_of_ble_eq_true rfl, Nat.le_of_ble_eq_true rfl⟩
              · refine kx_sw (fun c14 => ?_) (fun c14 => ?_)
                · refine kx_go 3 (pc' := if x1 ≤ x2 then 143 else 139) (lv' := [.int x0, .int x1, .int x2]) (st' := []) hX ok_Text_joined rfl ?_
                  refine kx_ite (fun c15 => ?_) (fun c15 => ?_)
                  · refine kx_go 1 (pc' := 144) (lv' := [.int x0, .int x1, .int x2]) (st' := [.int (0 : Int32)]) hX ok_Text_joined rfl ?_
                    intro h; have h := Option.some.inj h; subst h
                    exact kx_iret hX hE ok_Text_joined (nx := 145) rfl rfl ⟨Nat.le_of_ble_eq_true rfl, Nat.le_of_ble_eq_true rfl⟩
                  · refine kx_go 2 (pc' := 144) (lv' := [.int x0, .int x1, .int x2]) (st' := [.int (1 : Int32)]) hX ok_Text_joined rfl ?_
                    intro h; have h := Option.some.inj h; subst h
                    exact kx_iret hX hE ok_Text_joined (nx := 145) rfl rfl ⟨Nat.le_of_ble_eq_true rfl, Nat.le_of_ble_eq_true rfl⟩
                · refine kx_sw (fun c16 => ?_) (fun c16 => ?_)
                  · refine kx_go 2 (pc' := if x1 = (0 : Int32) then 88 else 92) (lv' := [.int x0, .int x1, .int x2]) (st' := []) hX ok_Text_joined rfl ?_
                    refine kx_ite (fun c17 => ?_) (fun c17 => ?_)
                    · refine kx_go 2 (pc' := if x2 = (0 : Int32) then 96 else 92) (lv' := [.int x0, .int x1, .int x2]) (st' := []) hX ok_Text_joined rfl ?_
                      refine kx_ite (fun c18 => ?_) (fun c18 => ?_)
                      · refine kx_go 1 (pc' := 97) (lv' := [.int x0, .int x1, .int x2]) (st' := [.int (0 : Int32)]) hX ok_Text_joined rfl ?_
                        intro h; have h := Option.some.inj h; subst h
                        exact kx_iret hX hE ok_Text_joined (nx := 98) rfl rfl ⟨Nat.le_of_ble_eq_true rfl, Nat.le_of_ble_eq_true rfl⟩
                      · refine kx_go 2 (pc' := 97) (lv' := [.int x0, .int x1, .int x2]) (st' := [.int (1 : Int32)]) hX ok_Text_joined rfl ?_
                        intro h; have h := Option.some.inj h; subst h
                        exact kx_iret hX hE ok_Text_joined (nx := 98) rfl rfl ⟨Nat.le_of_ble_eq_true rfl, Nat.le_of_ble_eq_true rfl⟩
                    · refine kx_go 2 (pc' := 97) (lv' := [.int x0, .int x1, .int x2]) (st' := [.int (1 : Int32)]) hX ok_Text_joined rfl ?_
                      intro h; have h := Option.some.inj h; subst h
                      exact kx_iret hX hE ok_Text_joined (nx := 98) rfl rfl ⟨Nat.le_of_ble_eq_true rfl, Nat.le_of_ble_eq_true rfl⟩
                  · refine kx_sw0 ?_
                    refine kx_go 2 (pc' := if x2 = (0 : Int32) then 173 else 177) (lv' := [.int x0, .int x1, .int x2]) (st' := []) hX ok_Text_joined rfl ?_
                    refine kx_ite (fun c19 => ?_) (fun c19 => ?_)
                    · refine kx_go 2 (pc' := 180) (lv' := [.int x0, .int x1, .int x2]) (st' := [.int (0 : Int32)]) hX ok_Text_joined rfl ?_
                      intro h; have h := Option.some.inj h; subst h
                      exact kx_iret hX hE ok_Text_joined (nx := 181) rfl rfl ⟨Nat.le_of_ble_eq_true rfl, Nat.le_of_ble_eq_true rfl⟩
                    · refine kx_go 2 (pc' := 179) (lv' := [.int x0, .int x1, .int x2]) (st' := [.int x2, .int x1]) hX ok_Text_joined rfl ?_
                      refine kx_irem hX ok_Text_joined (nx := 180) rfl (fun h20 => ?_)
                      intro h; have h := Option.some.inj h; subst h
                      exact kx_iret hX hE ok_Text_joined (nx := 181) rfl rfl ⟨Nat.le_of_ble_eq_true rfl, Nat.le_of_ble_eq_true rfl⟩
def L_Text_workOut_6 (x1 : Int32) (x2 : Int32) (x3 : Int32) (x4 : Int32) : Nat → Int32 → Int32 → HI → Option (HI)
  | 0, _, _, _ => none
  | f + 1, x5, x6, I => if (I 16 2) ≤ x6 then (some I) else (grd (bnd x6 50) (if (I 17 x6.toNatClampNeg) = (0 : Int32) then (if ((50 : Int32) - (1 : Int32)) ≤ x5 then (L_Text_workOut_6 x1 x2 x3 x4 f x5 (x6 + (1 : Int32)) I) else (grd (bnd (x5 + (1 : Int32)) 50) (lt (xu I 19 (x5 + (1 : Int32)).toNatClampNeg (I 18 x6.toNatClampNeg)) fun J6 => L_Text_workOut_6 x1 x2 x3 x4 f (x5 + (1 : Int32)) (x6 + (1 : Int32)) J6))) else (if (I 17 x6.toNatClampNeg) = (1 : Int32) then (if ((50 : Int32) - (1 : Int32)) ≤ x5 then (L_Text_workOut_6 x1 x2 x3 x4 f x5 (x6 + (1 : Int32)) I) else (grd (bnd (x5 + (1 : Int32)) 50) (lt (xu I 19 (x5 + (1 : Int32)).toNatClampNeg (M_Text_named (I 18 x6.toNatClampNeg) x1 x2 x3 x4)) fun J10 => L_Text_workOut_6 x1 x2 x3 x4 f (x5 + (1 : Int32)) (x6 + (1 : Int32)) J10))) else (if (I 17 x6.toNatClampNeg) = (33 : Int32) then (if x5 < (0 : Int32) then (L_Text_workOut_6 x1 x2 x3 x4 f x5 (x6 + (1 : Int32)) I) else (grd (bnd x5 50) (if (I 19 x5.toNatClampNeg) = (0 : Int32) then (lt (xu I 19 x5.toNatClampNeg (1 : Int32)) fun J15 => L_Text_workOut_6 x1 x2 x3 x4 f x5 (x6 + (1 : Int32)) J15) else (lt (xu I 19 x5.toNatClampNeg (0 : Int32)) fun J16 => L_Text_workOut_6 x1 x2 x3 x4 f x5 (x6 + (1 : Int32)) J16)))) else (if x5 < (1 : Int32) then (L_Text_workOut_6 x1 x2 x3 x4 f x5 (x6 + (1 : Int32)) I) else (grd (bnd (x5 + (-1 : Int32)) 50) (grd (bnd ((x5 + (-1 : Int32)) + (1 : Int32)) 50) (Option.bind (M_Text_joined (I 17 x6.toNatClampNeg) (I 19 (x5 + (-1 : Int32)).toNatClampNeg) (I 19 ((x5 + (-1 : Int32)) + (1 : Int32)).toNatClampNeg)) fun p20 => lt (xu I 19 (x5 + (-1 : Int32)).toNatClampNeg p20) fun J21 => L_Text_workOut_6 x1 x2 x3 x4 f (x5 + (-1 : Int32)) (x6 + (1 : Int32)) J21))))))))
theorem s_L_Text_workOut_6 {G : xG} {X : xC} {d : Nat} (hd : 1 ≤ d) (hX : xAmb G X m_Text_workOut d 0 0)  (C : HC) (x1 : Int32) (x2 : Int32) (x3 : Int32) (x4 : Int32) : ∀ (f : Nat) (x5 : Int32) (x6 : Int32) (I : HI) (r : HI), (kW G X m_Text_workOut C r 0 0 170 [.ref 16, .null, .null, .null, .null, .null, .null, .null] []) → L_Text_workOut_6 x1 x2 x3 x4 f x5 x6 I = some r → kW G X m_Text_workOut C I 0 0 6 [.ref 16, .int x1, .int x2, .int x3, .int x4, .int x5, .int x6, .null] [] := by
  intro f
  induction f with
  | zero => intro x5 x6 I r hk h; rw [L_Text_workOut_6] at h; cases h
  | succ f ih =>
    intro x5 x6 I r hk
    rw [L_Text_workOut_6]
    refine kx_go 2 (pc' := 9) (lv' := [.ref 16, .int x1, .int x2, .int x3, .int x4, .int x5, .int x6, .null]) (st' := [.ref 16, .int x6]) hX ok_Text_workOut rfl ?_
    refine kx_geti hX ok_Text_workOut rfl (k := 2) (nx := 12) rfl ?_
    refine kx_go 1 (pc' := if (I 16 2) ≤ x6 then 170 else 15) (lv' := [.ref 16, .int x1, .int x2, .int x3, .int x4, .int x5, .int x6, .null]) (st' := []) hX ok_Text_workOut rfl ?_
    refine kx_ite (fun c1 => ?_) (fun c1 => ?_)
    · refine kx_weak (lv' := [.ref 16, .null, .null, .null, .null, .null, .null, .null]) (by simp [xsub]) ?_
      intro h; have h := Option.some.inj h; subst h
      exact hk
    · refine kx_go 1 (pc' := 16) (lv' := [.ref 16, .int x1, .int x2, .int x3, .int x4, .int x5, .int x6, .null]) (st' := [.ref 16]) hX ok_Text_workOut rfl ?_
      refine kx_getp hX ok_Text_workOut rfl (q := 17) (nx := 19) rfl ?_
      refine kx_go 1 (pc' := 21) (lv' := [.ref 16, .int x1, .int x2, .int x3, .int x4, .int x5, .int x6, .null]) (st' := [.int x6, .ref 17]) hX ok_Text_workOut rfl ?_
      refine kx_iald hX ok_Text_workOut (w := 50) (nx := 22) rfl (fun b2 => ?_)
      refine kx_go 3 (pc' := if (I 17 x6.toNatClampNeg) = (0 : Int32) then 35 else 29) (lv' := [.ref 16, .int x1, .int x2, .int x3, .int x4, .int x5, .int x6, .int (I 17 x6.toNatClampNeg)]) (st' := []) hX ok_Text_workOut rfl ?_
      refine kx_ite (fun c3 => ?_) (fun c3 => ?_)
      · refine kx_go 2 (pc' := 38) (lv' := [.ref 16, .int x1, .int x2, .int x3, .int x4, .int x5, .int x6, .int (I 17 x6.toNatClampNeg)]) (st' := [.ref 16, .int x5]) hX ok_Text_workOut rfl ?_
        refine kx_getp hX ok_Text_workOut rfl (q := 19) (nx := 41) rfl ?_
        refine kx_alen hX ok_Text_workOut (w := 50) (nx := 42) rfl (y := (50 : Int32)) rfl ?_
        refine kx_go 3 (pc' := if ((50 : Int32) - (1 : Int32)) ≤ x5 then 164 else 47) (lv' := [.ref 16, .int x1, .int x2, .int x3, .int x4, .int x5, .int x6, .int (I 17 x6.toNatClampNeg)]) (st' := []) hX ok_Text_workOut rfl ?_
        refine kx_ite (fun c4 => ?_) (fun c4 => ?_)
        · refine kx_go 2 (pc' := 6) (lv' := [.ref 16, .int x1, .int x2, .int x3, .int x4, .int x5, .int (x6 + (1 : Int32)), .int (I 17 x6.toNatClampNeg)]) (st' := []) hX ok_Text_workOut rfl ?_
          refine kx_weak (lv' := [.ref 16, .int x1, .int x2, .int x3, .int x4, .int x5, .int (x6 + (1 : Int32)), .null]) (by simp [xsub]) ?_
          exact fun h => ih x5 (x6 + (1 : Int32)) I r hk h
        · refine kx_go 2 (pc' := 51) (lv' := [.ref 16, .int x1, .int x2, .int x3, .int x4, .int (x5 + (1 : Int32)), .int x6, .int (I 17 x6.toNatClampNeg)]) (st' := [.ref 16]) hX ok_Text_workOut rfl ?_
          refine kx_getp hX ok_Text_workOut rfl (q := 19) (nx := 54) rfl ?_
          refine kx_go 3 (pc' := if (I 17 x6.toNatClampNeg) = (0 : Int32) then 61 else 71) (lv' := [.ref 16, .int x1, .int x2, .int x3, .int x4, .int (x5 + (1 : Int32)), .int x6, .int (I 17 x6.toNatClampNeg)]) (st' := [.int (x5 + (1 : Int32)), .ref 19]) hX ok_Text_workOut rfl ?_
          refine kx_yes c3 ?_
          refine kx_go 1 (pc' := 62) (lv' := [.ref 16, .int x1, .int x2, .int x3, .int x4, .int (x5 + (1 : Int32)), .int x6, .int (I 17 x6.toNatClampNeg)]) (st' := [.ref 16, .int (x5 + (1 : Int32)), .ref 19]) hX ok_Text_workOut rfl ?_
          refine kx_getp hX ok_Text_workOut rfl (q := 18) (nx := 65) rfl ?_
          refine kx_go 1 (pc' := 67) (lv' := [.ref 16, .int x1, .int x2, .int x3, .int x4, .int (x5 + (1 : Int32)), .int x6, .int (I 17 x6.toNatClampNeg)]) (st' := [.int x6, .ref 18, .int (x5 + (1 : Int32)), .ref 19]) hX ok_Text_workOut rfl ?_
          refine kx_ialdc hX ok_Text_workOut (w := 50) (nx := 68) rfl b2 (k := x6.toNatClampNeg) rfl ?_
          refine kx_go 1 (pc' := 86) (lv' := [.ref 16, .int x1, .int x2, .int x3, .int x4, .int (x5 + (1 : Int32)), .int x6, .int (I 17 x6.toNatClampNeg)]) (st' := [.int (I 18 x6.toNatClampNeg), .int (x5 + (1 : Int32)), .ref 19]) hX ok_Text_workOut rfl ?_
          refine kx_iast hX ok_Text_workOut (w := 50) (nx := 87) rfl (fun b5 => ?_)
          refine kx_lt (Q := fun J6 => kW G X m_Text_workOut C J6 0 0 87 [.ref 16, .int x1, .int x2, .int x3, .int x4, .int (x5 + (1 : Int32)), .int x6, .int (I 17 x6.toNatClampNeg)] []) (fun J6 eJ6 => ?_)
          refine kx_go 3 (pc' := 6) (lv' := [.ref 16, .int x1, .int x2, .int x3, .int x4, .int (x5 + (1 : Int32)), .int (x6 + (1 : Int32)), .int (I 17 x6.toNatClampNeg)]) (st' := []) hX ok_Text_workOut rfl ?_
          refine kx_weak (lv' := [.ref 16, .int x1, .int x2, .int x3, .int x4, .int (x5 + (1 : Int32)), .int (x6 + (1 : Int32)), .null]) (by simp [xsub]) ?_
          exact fun h => ih (x5 + (1 : Int32)) (x6 + (1 : Int32)) J6 r hk h
      · refine kx_go 3 (pc' := if (I 17 x6.toNatClampNeg) = (1 : Int32) then 35 else 90) (lv' := [.ref 16, .int x1, .int x2, .int x3, .int x4, .int x5, .int x6, .int (I 17 x6.toNatClampNeg)]) (st' := []) hX ok_Text_workOut rfl ?_
        refine kx_ite (fun c7 => ?_) (fun c7 => ?_)
        · refine kx_go 2 (pc' := 38) (lv' := [.ref 16, .int x1, .int x2, .int x3, .int x4, .int x5, .int x6, .int (I 17 x6.toNatClampNeg)]) (st' := [.ref 16, .int x5]) hX ok_Text_workOut rfl ?_
          refine kx_getp hX ok_Text_workOut rfl (q := 19) (nx := 41) rfl ?_
          refine kx_alen hX ok_Text_workOut (w := 50) (nx := 42) rfl (y := (50 : Int32)) rfl ?_
          refine kx_go 3 (pc' := if ((50 : Int32) - (1 : Int32)) ≤ x5 then 164 else 47) (lv' := [.ref 16, .int x1, .int x2, .int x3, .int x4, .int x5, .int x6, .int (I 17 x6.toNatClampNeg)]) (st' := []) hX ok_Text_workOut rfl ?_
          refine kx_ite (fun c8 => ?_) (fun c8 => ?_)
          · refine kx_go 2 (pc' := 6) (lv' := [.ref 16, .int x1, .int x2, .int x3, .int x4, .int x5, .int (x6 + (1 : Int32)), .int (I 17 x6.toNatClampNeg)]) (st' := []) hX ok_Text_workOut rfl ?_
            refine kx_weak (lv' := [.ref 16, .int x1, .int x2, .int x3, .int x4, .int x5, .int (x6 + (1 : Int32)), .null]) (by simp [xsub]) ?_
            exact fun h => ih x5 (x6 + (1 : Int32)) I r hk h
          · refine kx_go 2 (pc' := 51) (lv' := [.ref 16, .int x1, .int x2, .int x3, .int x4, .int (x5 + (1 : Int32)), .int x6, .int (I 17 x6.toNatClampNeg)]) (st' := [.ref 16]) hX ok_Text_workOut rfl ?_
            refine kx_getp hX ok_Text_workOut rfl (q := 19) (nx := 54) rfl ?_
            refine kx_go 3 (pc' := if (I 17 x6.toNatClampNeg) = (0 : Int32) then 61 else 71) (lv' := [.ref 16, .int x1, .int x2, .int x3, .int x4, .int (x5 + (1 : Int32)), .int x6, .int (I 17 x6.toNatClampNeg)]) (st' := [.int (x5 + (1 : Int32)), .ref 19]) hX ok_Text_workOut rfl ?_
            refine kx_no c3 ?_
            refine kx_go 1 (pc' := 72) (lv' := [.ref 16, .int x1, .int x2, .int x3, .int x4, .int (x5 + (1 : Int32)), .int x6, .int (I 17 x6.toNatClampNeg)]) (st' := [.ref 16, .int (x5 + (1 : Int32)), .ref 19]) hX ok_Text_workOut rfl ?_
            refine kx_getp hX ok_Text_workOut rfl (q := 18) (nx := 75) rfl ?_
            refine kx_go 1 (pc' := 77) (lv' := [.ref 16, .int x1, .int x2, .int x3, .int x4, .int (x5 + (1 : Int32)), .int x6, .int (I 17 x6.toNatClampNeg)]) (st' := [.int x6, .ref 18, .int (x5 + (1 : Int32)), .ref 19]) hX ok_Text_workOut rfl ?_
            refine kx_ialdc hX ok_Text_workOut (w := 50) (nx := 78) rfl b2 (k := x6.toNatClampNeg) rfl ?_
            refine kx_go 4 (pc' := 83) (lv' := [.ref 16, .int x1, .int x2, .int x3, .int x4, .int (x5 + (1 : Int32)), .int x6, .int (I 17 x6.toNatClampNeg)]) (st' := [.int x4, .int x3, .int x2, .int x1, .int (I 18 x6.toNatClampNeg), .int (x5 + (1 : Int32)), .ref 19]) hX ok_Text_workOut rfl ?_
            refine kx_S (as := [.int (I 18 x6.toNatClampNeg), .int x1, .int x2, .int x3, .int x4]) hX ok_Text_workOut (nx := 86) rfl l_Text_77 (fun _ => s_Text_named (G := G) (d := 0) (Nat.le_refl _) C I (I 18 x6.toNatClampNeg) x1 x2 x3 x4 _ rfl) (by omega) rfl (rest := [.int (x5 + (1 : Int32)), .ref 19]) rfl (Nat.le_of_ble_eq_true rfl) ⟨Nat.le_of_ble_eq_true rfl, Nat.le_of_ble_eq_true rfl⟩ ?_
            show _ → kW G X m_Text_workOut C I 0 0 86 [.ref 16, .int x1, .int x2, .int x3, .int x4, .int (x5 + (1 : Int32)), .int x6, .int (I 17 x6.toNatClampNeg)] [.int (M_Text_named (I 18 x6.toNatClampNeg) x1 x2 x3 x4), .int (x5 + (1 : Int32)), .ref 19]
            refine kx_iast hX ok_Text_workOut (w := 50) (nx := 87) rfl (fun b9 => ?_)
            refine kx_lt (Q := fun J10 => kW G X m_Text_workOut C J10 0 0 87 [.ref 16, .int x1, .int x2, .int x3, .int x4, .int (x5 + (1 : Int32)), .int x6, .int (I 17 x6.toNatClampNeg)] []) (fun J10 eJ10 => ?_)
            refine kx_go 3 (pc' := 6) (lv' := [.ref 16, .int x1, .int x2, .int x3, .int x4, .int (x5 + (1 : Int32)), .int (x6 + (1 : Int32)), .int (I 17 x6.toNatClampNeg)]) (st' := []) hX ok_Text_workOut rfl ?_
            refine kx_weak (lv' := [.ref 16, .int x1, .int x2, .int x3, .int x4, .int (x5 + (1 : Int32)), .int (x6 + (1 : Int32)), .null]) (by simp [xsub]) ?_
            exact fun h => ih (x5 + (1 : Int32)) (x6 + (1 : Int32)) J10 r hk h
        · refine kx_go 3 (pc' := if (I 17 x6.toNatClampNeg) = (33 : Int32) then 97 else 127) (lv' := [.ref 16, .int x1, .int x2, .int x3, .int x4, .int x5, .int x6, .int (I 17 x6.toNatClampNeg)]) (st' := []) hX ok_Text_workOut rfl ?_
          refine kx_ite (fun c11 => ?_) (fun c11 => ?_)
          · refine kx_go 2 (pc' := if x5 < (0 : Int32) then 164 else 102) (lv' := [.ref 16, .int x1, .int x2, .int x3, .int x4, .int x5, .int x6, .int (I 17 x6.toNatClampNeg)]) (st' := []) hX ok_Text_workOut rfl ?_
            refine kx_ite (fun c12 => ?_) (fun c12 => ?_)
            · refine kx_go 2 (pc' := 6) (lv' := [.ref 16, .int x1, .int x2, .int x3, .int x4, .int x5, .int (x6 + (1 : Int32)), .int (I 17 x6.toNatClampNeg)]) (st' := []) hX ok_Text_workOut rfl ?_
              refine kx_weak (lv' := [.ref 16, .int x1, .int x2, .int x3, .int x4, .int x5, .int (x6 + (1 : Int32)), .null]) (by simp [xsub]) ?_
              exact fun h => ih x5 (x6 + (1 : Int32)) I r hk h
            · refine kx_go 1 (pc' := 103) (lv' := [.ref 16, .int x1, .int x2, .int x3, .int x4, .int x5, .int x6, .int (I 17 x6.toNatClampNeg)]) (st' := [.ref 16]) hX ok_Text_workOut rfl ?_
              refine kx_getp hX ok_Text_workOut rfl (q := 19) (nx := 106) rfl ?_
              refine kx_go 2 (pc' := 109) (lv' := [.ref 16, .int x1, .int x2, .int x3, .int x4, .int x5, .int x6, .int (I 17 x6.toNatClampNeg)]) (st' := [.ref 16, .int x5, .ref 19]) hX ok_Text_workOut rfl ?_
              refine kx_getp hX ok_Text_workOut rfl (q := 19) (nx := 112) rfl ?_
              refine kx_go 1 (pc' := 114) (lv' := [.ref 16, .int x1, .int x2, .int x3, .int x4, .int x5, .int x6, .int (I 17 x6.toNatClampNeg)]) (st' := [.int x5, .ref 19, .int x5, .ref 19]) hX ok_Text_workOut rfl ?_
              refine kx_iald hX ok_Text_workOut (w := 50) (nx := 115) rfl (fun b13 => ?_)
              refine kx_go 1 (pc' := if (I 19 x5.toNatClampNeg) = (0 : Int32) then 118 else 122) (lv' := [.ref 16, .int x1, .int x2, .int x3, .int x4, .int x5, .int x6, .int (I 17 x6.toNatClampNeg)]) (st' := [.int x5, .ref 19]) hX ok_Text_workOut rfl ?_
              refine kx_ite (fun c14 => ?_) (fun c14 => ?_)
              · refine kx_go 2 (pc' := 123) (lv' := [.ref 16, .int x1, .int x2, .int x3, .int x4, .int x5, .int x6, .int (I 17 x6.toNatClampNeg)]) (st' := [.int (1 : Int32), .int x5, .ref 19]) hX ok_Text_workOut rfl ?_
                refine kx_iastc hX ok_Text_workOut (w := 50) (nx := 124) rfl b13 (k := x5.toNatClampNeg) rfl ?_
                refine kx_lt (Q := fun J15 => kW G X m_Text_workOut C J15 0 0 124 [.ref 16, .int x1, .int x2, .int x3, .int x4, .int x5, .int x6, .int (I 17 x6.toNatClampNeg)] []) (fun J15 eJ15 => ?_)
                refine kx_go 3 (pc' := 6) (lv' := [.ref 16, .int x1, .int x2, .int x3, .int x4, .int x5, .int (x6 + (1 : Int32)), .int (I 17 x6.toNatClampNeg)]) (st' := []) hX ok_Text_workOut rfl ?_
                refine kx_weak (lv' := [.ref 16, .int x1, .int x2, .int x3, .int x4, .int x5, .int (x6 + (1 : Int32)), .null]) (by simp [xsub]) ?_
                exact fun h => ih x5 (x6 + (1 : Int32)) J15 r hk h
              · refine kx_go 1 (pc' := 123) (lv' := [.ref 16, .int x1, .int x2, .int x3, .int x4, .int x5, .int x6, .int (I 17 x6.toNatClampNeg)]) (st' := [.int (0 : Int32), .int x5, .ref 19]) hX ok_Text_workOut rfl ?_
                refine kx_iastc hX ok_Text_workOut (w := 50) (nx := 124) rfl b13 (k := x5.toNatClampNeg) rfl ?_
                refine kx_lt (Q := fun J16 => kW G X m_Text_workOut C J16 0 0 124 [.ref 16, .int x1, .int x2, .int x3, .int x4, .int x5, .int x6, .int (I 17 x6.toNatClampNeg)] []) (fun J16 eJ16 => ?_)
                refine kx_go 3 (pc' := 6) (lv' := [.ref 16, .int x1, .int x2, .int x3, .int x4, .int x5, .int (x6 + (1 : Int32)), .int (I 17 x6.toNatClampNeg)]) (st' := []) hX ok_Text_workOut rfl ?_
                refine kx_weak (lv' := [.ref 16, .int x1, .int x2, .int x3, .int x4, .int x5, .int (x6 + (1 : Int32)), .null]) (by simp [xsub]) ?_
                exact fun h => ih x5 (x6 + (1 : Int32)) J16 r hk h
          · refine kx_go 3 (pc' := if x5 < (1 : Int32) then 164 else 133) (lv' := [.ref 16, .int x1, .int x2, .int x3, .int x4, .int x5, .int x6, .int (I 17 x6.toNatClampNeg)]) (st' := []) hX ok_Text_workOut rfl ?_
            refine kx_ite (fun c17 => ?_) (fun c17 => ?_)
            · refine kx_go 2 (pc' := 6) (lv' := [.ref 16, .int x1, .int x2, .int x3, .int x4, .int x5, .int (x6 + (1 : Int32)), .int (I 17 x6.toNatClampNeg)]) (st' := []) hX ok_Text_workOut rfl ?_
              refine kx_weak (lv' := [.ref 16, .int x1, .int x2, .int x3, .int x4, .int x5, .int (x6 + (1 : Int32)), .null]) (by simp [xsub]) ?_
              exact fun h => ih x5 (x6 + (1 : Int32)) I r hk h
            · refine kx_go 2 (pc' := 137) (lv' := [.ref 16, .int x1, .int x2, .int x3, .int x4, .int (x5 + (-1 : Int32)), .int x6, .int (I 17 x6.toNatClampNeg)]) (st' := [.ref 16]) hX ok_Text_workOut rfl ?_
              refine kx_getp hX ok_Text_workOut rfl (q := 19) (nx := 140) rfl ?_
              refine kx_go 3 (pc' := 145) (lv' := [.ref 16, .int x1, .int x2, .int x3, .int x4, .int (x5 + (-1 : Int32)), .int x6, .int (I 17 x6.toNatClampNeg)]) (st' := [.ref 16, .int (I 17 x6.toNatClampNeg), .int (x5 + (-1 : Int32)), .ref 19]) hX ok_Text_workOut rfl ?_
              refine kx_getp hX ok_Text_workOut rfl (q := 19) (nx := 148) rfl ?_
              refine kx_go 1 (pc' := 150) (lv' := [.ref 16, .int x1, .int x2, .int x3, .int x4, .int (x5 + (-1 : Int32)), .int x6, .int (I 17 x6.toNatClampNeg)]) (st' := [.int (x5 + (-1 : Int32)), .ref 19, .int (I 17 x6.toNatClampNeg), .int (x5 + (-1 : Int32)), .ref 19]) hX ok_Text_workOut rfl ?_
              refine kx_iald hX ok_Text_workOut (w := 50) (nx := 151) rfl (fun b18 => ?_)
              refine kx_go 1 (pc' := 152) (lv' := [.ref 16, .int x1, .int x2, .int x3, .int x4, .int (x5 + (-1 : Int32)), .int x6, .int (I 17 x6.toNatClampNeg)]) (st' := [.ref 16, .int (I 19 (x5 + (-1 : Int32)).toNatClampNeg), .int (I 17 x6.toNatClampNeg), .int (x5 + (-1 : Int32)), .ref 19]) hX ok_Text_workOut rfl ?_
              refine kx_getp hX ok_Text_workOut rfl (q := 19) (nx := 155) rfl ?_
              refine kx_go 3 (pc' := 159) (lv' := [.ref 16, .int x1, .int x2, .int x3, .int x4, .int (x5 + (-1 : Int32)), .int x6, .int (I 17 x6.toNatClampNeg)]) (st' := [.int ((x5 + (-1 : Int32)) + (1 : Int32)), .ref 19, .int (I 19 (x5 + (-1 : Int32)).toNatClampNeg), .int (I 17 x6.toNatClampNeg), .int (x5 + (-1 : Int32)), .ref 19]) hX ok_Text_workOut rfl ?_
              refine kx_iald hX ok_Text_workOut (w := 50) (nx := 160) rfl (fun b19 => ?_)
              refine kx_bind (fun p20 hp20 => ?_)
              refine kx_S (as := [.int (I 17 x6.toNatClampNeg), .int (I 19 (x5 + (-1 : Int32)).toNatClampNeg), .int (I 19 ((x5 + (-1 : Int32)) + (1 : Int32)).toNatClampNeg)]) hX ok_Text_workOut (nx := 163) rfl l_Text_81 (fun _ => s_Text_joined (G := G) (d := 0) (Nat.le_refl _) C I (I 17 x6.toNatClampNeg) (I 19 (x5 + (-1 : Int32)).toNatClampNeg) (I 19 ((x5 + (-1 : Int32)) + (1 : Int32)).toNatClampNeg) p20 hp20) (by omega) rfl (rest := [.int (x5 + (-1 : Int32)), .ref 19]) rfl (Nat.le_of_ble_eq_true rfl) ⟨Nat.le_of_ble_eq_true rfl, Nat.le_of_ble_eq_true rfl⟩ ?_
              show _ → kW G X m_Text_workOut C I 0 0 163 [.ref 16, .int x1, .int x2, .int x3, .int x4, .int (x5 + (-1 : Int32)), .int x6, .int (I 17 x6.toNatClampNeg)] [.int p20, .int (x5 + (-1 : Int32)), .ref 19]
              refine kx_iastc hX ok_Text_workOut (w := 50) (nx := 164) rfl b18 (k := (x5 + (-1 : Int32)).toNatClampNeg) rfl ?_
              refine kx_lt (Q := fun J21 => kW G X m_Text_workOut C J21 0 0 164 [.ref 16, .int x1, .int x2, .int x3, .int x4, .int (x5 + (-1 : Int32)), .int x6, .int (I 17 x6.toNatClampNeg)] []) (fun J21 eJ21 => ?_)
              refine kx_go 2 (pc' := 6) (lv' := [.ref 16, .int x1, .int x2, .int x3, .int x4, .int (x5 + (-1 : Int32)), .int (x6 + (1 : Int32)), .int (I 17 x6.toNatClampNeg)]) (st' := []) hX ok_Text_workOut rfl ?_
              refine kx_weak (lv' := [.ref 16, .int x1, .int x2, .int x3, .int x4, .int (x5 + (-1 : Int32)), .int (x6 + (1 : Int32)), .null]) (by simp [xsub]) ?_
              exact fun h => ih (x5 + (-1 : Int32)) (x6 + (1 : Int32)) J21 r hk h
def M_Text_workOut (I : HI) (x1 : Int32) (x2 : Int32) (x3 : Int32) (x4 : Int32) : Option (Int32 × HI) := Option.bind (L_Text_workOut_6 x1 x2 x3 x4 1000 (-1 : Int32) (0 : Int32) I) fun p1 => some ((p1 19 0), p1)
theorem s_Text_workOut {G : xG} {d : Nat} (hd : 1 ≤ d) (C : HC) (I : HI) (x1 : Int32) (x2 : Int32) (x3 : Int32) (x4 : Int32)  (r : Int32 × HI) : M_Text_workOut I x1 x2 x3 x4 = some r → kM G d m_Text_workOut [.ref 16, .int x1, .int x2, .int x3, .int x4] C I 0 0 (some (.int r.1)) C r.2 := by
  unfold M_Text_workOut
  refine kM.of (by decide +kernel) (Nat.le_of_ble_eq_true rfl) (lv := [.ref 16, .int x1, .int x2, .int x3, .int x4, .null, .null, .null]) rfl (fun X hX hE => ?_)
  refine kx_go 4 (pc' := 6) (lv' := [.ref 16, .int x1, .int x2, .int x3, .int x4, .int (-1 : Int32), .int (0 : Int32), .null]) (st' := []) hX ok_Text_workOut rfl ?_
  refine kx_bind (fun p1 hp1 => ?_)
  refine kx_via (fun hk => s_L_Text_workOut_6 (G := G) (X := X) (by omega) hX C x1 x2 x3 x4 1000 (-1 : Int32) (0 : Int32) I p1 hk hp1) ?_
  refine kx_go 1 (pc' := 171) (lv' := [.ref 16, .null, .null, .null, .null, .null, .null, .null]) (st' := [.ref 16]) hX ok_Text_workOut rfl ?_
  refine kx_getp hX ok_Text_workOut rfl (q := 19) (nx := 174) rfl ?_
  refine kx_go 1 (pc' := 175) (lv' := [.ref 16, .null, .null, .null, .null, .null, .null, .null]) (st' := [.int (0 : Int32), .ref 19]) hX ok_Text_workOut rfl ?_
  refine kx_ialdc hX ok_Text_workOut (w := 50) (nx := 176) rfl rfl (k := 0) rfl ?_
  intro h; have h := Option.some.inj h; subst h
  exact kx_iret hX hE ok_Text_workOut (nx := 177) rfl rfl ⟨Nat.le_of_ble_eq_true rfl, Nat.le_of_ble_eq_true rfl⟩
