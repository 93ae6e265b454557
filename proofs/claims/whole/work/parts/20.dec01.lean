def M_Model_ran (I : HI) (x1 : Int32) : Option (HI) := if (40 : Int32) ≤ (I 88 21) then (some I) else (grd (bnd (I 88 21) 40) (lt (xu I 102 (I 88 21).toNatClampNeg x1) fun J3 => lt (xu J3 88 21 ((J3 88 21) + (1 : Int32))) fun J4 => some J4))
theorem s_Model_ran {G : xG} {d : Nat} (hd : 0 ≤ d) (C : HC) (I : HI) (x1 : Int32)  (r : HI) : M_Model_ran I x1 = some r → kM G d m_Model_ran [.ref 88, .int x1] C I 0 0 none C r := by
  unfold M_Model_ran
  refine kM.of (by decide +kernel) (Nat.le_of_ble_eq_true rfl) (lv := [.ref 88, .int x1]) rfl (fun X hX hE => ?_)
  refine kx_go 1 (pc' := 1) (lv' := [.ref 88, .int x1]) (st' := [.ref 88]) hX ok_Model_ran rfl ?_
  refine kx_geti hX ok_Model_ran rfl (k := 21) (nx := 4) rfl ?_
  refine kx_go 2 (pc' := if (40 : Int32) ≤ (I 88 21) then 29 else 9) (lv' := [.ref 88, .int x1]) (st' := []) hX ok_Model_ran rfl ?_
  refine kx_ite (fun c1 => ?_) (fun c1 => ?_)
  · intro h; have h := Option.some.inj h; subst h
    exact kx_vret hX hE ok_Model_ran (nx := 30) rfl rfl ⟨Nat.le_of_ble_eq_true rfl, Nat.le_of_ble_eq_true rfl⟩
  · refine kx_go 1 (pc' := 10) (lv' := [.ref 88, .int x1]) (st' := [.ref 88]) hX ok_Model_ran rfl ?_
    refine kx_getp hX ok_Model_ran rfl (q := 102) (nx := 13) rfl ?_
    refine kx_go 1 (pc' := 14) (lv' := [.ref 88, .int x1]) (st' := [.ref 88, .ref 102]) hX ok_Model_ran rfl ?_
    refine kx_geti hX ok_Model_ran rfl (k := 21) (nx := 17) rfl ?_
    refine kx_go 1 (pc' := 18) (lv' := [.ref 88, .int x1]) (st' := [.int x1, .int (I 88 21), .ref 102]) hX ok_Model_ran rfl ?_
    refine kx_iast hX ok_Model_ran (w := 40) (nx := 19) rfl (fun b2 => ?_)
    refine kx_lt (Q := fun J3 => kW G X m_Model_ran C J3 0 0 19 [.ref 88, .int x1] []) (fun J3 eJ3 => ?_)
    refine kx_go 2 (pc' := 21) (lv' := [.ref 88, .int x1]) (st' := [.ref 88, .ref 88]) hX ok_Model_ran rfl ?_
    refine kx_geti hX ok_Model_ran rfl (k := 21) (nx := 24) rfl ?_
    refine kx_go 2 (pc' := 26) (lv' := [.ref 88, .int x1]) (st' := [.int ((J3 88 21) + (1 : Int32)), .ref 88]) hX ok_Model_ran rfl ?_
    refine kx_puti hX ok_Model_ran rfl (k := 21) (nx := 29) rfl rfl ?_
    refine kx_lt (Q := fun J4 => kW G X m_Model_ran C J4 0 0 29 [.ref 88, .int x1] []) (fun J4 eJ4 => ?_)
    intro h; have h := Option.some.inj h; subst h
    exact kx_vret hX hE ok_Model_ran (nx := 30) rfl rfl ⟨Nat.le_of_ble_eq_true rfl, Nat.le_of_ble_eq_true rfl⟩
def M_Model_above (x0 : Int32) : Int32 := if (4 : Int32) ≤ x0 then ((x0 - (3 : Int32))) else ((0 : Int32))
theorem s_Model_above {G : xG} {d : Nat} (hd : 0 ≤ d) (C : HC) (I : HI) (x0 : Int32)  (r : Int32) : M_Model_above x0 = r → kM G d m_Model_above [.int x0] C I 0 0 (some (.int r)) C I := by
  unfold M_Model_above
  refine kM.of (by decide +kernel) (Nat.le_of_ble_eq_true rfl) (lv := [.int x0]) rfl (fun X hX hE => ?_)
  refine kx_go 3 (pc' := if (4 : Int32) ≤ x0 then 9 else 5) (lv' := [.int x0]) (st' := []) hX ok_Model_above rfl ?_
  refine kx_ite (fun c1 => ?_) (fun c1 => ?_)
  · refine kx_go 3 (pc' := 12) (lv' := [.int x0]) (st' := [.int (x0 - (3 : Int32))]) hX ok_Model_above rfl ?_
    rintro rfl
    exact kx_iret hX hE ok_Model_above (nx := 13) rfl rfl ⟨Nat.le_of_ble_eq_true rfl, Nat.le_of_ble_eq_true rfl⟩
  · refine kx_go 2 (pc' := 12) (lv' := [.int x0]) (st' := [.int (0 : Int32)]) hX ok_Model_above rfl ?_
    rintro rfl
    exact kx_iret hX hE ok_Model_above (nx := 13) rfl rfl ⟨Nat.le_of_ble_eq_true rfl, Nat.le_of_ble_eq_true rfl⟩
def M_Model_draws (udraws : Int32 → Int32 → HI → Option (Int32 × HI)) (I : HI) (x1 : Int32) (x2 : Int32) : Option (Int32 × HI) := if x1 = (0 : Int32) then (Option.bind (M_Model_ran I (10 : Int32)) fun p2 => some ((x2 + (p2 88 22)), p2)) else (if x1 = (2 : Int32) then (Option.bind (M_Model_ran I (30 : Int32)) fun p4 => Option.bind (udraws (M_Model_above (2 : Int32)) x2 p4) fun p5 => some ((p5.1 * (3 : Int32)), p5.2)) else (Option.bind (udraws (M_Model_above x1) x2 I) fun p6 => some (p6.1, p6.2)))
theorem s_Model_draws {G : xG} {d : Nat} {dudraws : Nat} (hd : dudraws + 1 ≤ d) (udraws : Int32 → Int32 → HI → Option (Int32 × HI)) (C : HC) (I : HI) (x1 : Int32) (x2 : Int32)  (hudraws : ∀ (a0 : Int32) (a1 : Int32) (I : HI) (r : Int32 × HI), udraws a0 a1 I = some r → kM G dudraws m_Model_draws [.ref 88, .int a0, .int a1] C I 0 0 (some (.int r.1)) C r.2) (r : Int32 × HI) : M_Model_draws udraws I x1 x2 = some r → kM G d m_Model_draws [.ref 88, .int x1, .int x2] C I 0 0 (some (.int r.1)) C r.2 := by
  unfold M_Model_draws
  refine kM.of (by decide +kernel) (Nat.le_of_ble_eq_true rfl) (lv := [.ref 88, .int x1, .int x2]) rfl (fun X hX hE => ?_)
  refine kx_go 2 (pc' := xtsw x1 [((0 : Int32), 28), ((2 : Int32), 41)] 59) (lv' := [.ref 88, .int x1, .int x2]) (st' := []) hX ok_Model_draws rfl ?_
  refine kx_sw (fun c1 => ?_) (fun c1 => ?_)
  · refine kx_go 2 (pc' := 31) (lv' := [.ref 88, .int x1, .int x2]) (st' := [.int (10 : Int32), .ref 88]) hX ok_Model_draws rfl ?_
    refine kx_bind (fun p2 hp2 => ?_)
    refine kx_V (r := 88) (as := [.int (10 : Int32)]) (by decide) hX ok_Model_draws (nx := 34) rfl l_Model_281 (by decide) rfl (fun _ => s_Model_ran (G := G) (d := 0) (Nat.le_refl _) C I (10 : Int32) p2 hp2) (by omega) rfl (rest := []) rfl (Nat.le_of_ble_eq_true rfl) ⟨Nat.le_of_ble_eq_true rfl, Nat.le_of_ble_eq_true rfl⟩ ?_
    show _ → kW G X m_Model_draws C p2 0 0 34 [.ref 88, .int x1, .int x2] []
    refine kx_go 2 (pc' := 36) (lv' := [.ref 88, .int x1, .int x2]) (st' := [.ref 88, .int x2]) hX ok_Model_draws rfl ?_
    refine kx_geti hX ok_Model_draws rfl (k := 22) (nx := 39) rfl ?_
    refine kx_go 1 (pc' := 40) (lv' := [.ref 88, .int x1, .int x2]) (st' := [.int (x2 + (p2 88 22))]) hX ok_Model_draws rfl ?_
    intro h; have h := Option.some.inj h; subst h
    exact kx_iret hX hE ok_Model_draws (nx := 41) rfl rfl ⟨Nat.le_of_ble_eq_true rfl, Nat.le_of_ble_eq_true rfl⟩
  · refine kx_sw (fun c3 => ?_) (fun c3 => ?_)
    · refine kx_go 2 (pc' := 44) (lv' := [.ref 88, .int x1, .int x2]) (st' := [.int (30 : Int32), .ref 88]) hX ok_Model_draws rfl ?_
      refine kx_bind (fun p4 hp4 => ?_)
      refine kx_V (r := 88) (as := [.int (30 : Int32)]) (by decide) hX ok_Model_draws (nx := 47) rfl l_Model_281 (by decide) rfl (fun _ => s_Model_ran (G := G) (d := 0) (Nat.le_refl _) C I (30 : Int32) p4 hp4) (by omega) rfl (rest := []) rfl (Nat.le_of_ble_eq_true rfl) ⟨Nat.le_of_ble_eq_true rfl, Nat.le_of_ble_eq_true rfl⟩ ?_
      show _ → kW G X m_Model_draws C p4 0 0 47 [.ref 88, .int x1, .int x2] []
      refine kx_go 2 (pc' := 49) (lv' := [.ref 88, .int x1, .int x2]) (st' := [.int (2 : Int32), .ref 88]) hX ok_Model_draws rfl ?_
      refine kx_S (as := [.int (2 : Int32)]) hX ok_Model_draws (nx := 52) rfl l_Model_184 (fun _ => s_Model_above (G := G) (d := 0) (Nat.le_refl _) C p4 (2 : Int32) _ rfl) (by omega) rfl (rest := [.ref 88]) rfl (Nat.le_of_ble_eq_true rfl) ⟨Nat.le_of_ble_eq_true rfl, Nat.le_of_ble_eq_true rfl⟩ ?_
      show _ → kW G X m_Model_draws C p4 0 0 52 [.ref 88, .int x1, .int x2] [.int (M_Model_above (2 : Int32)), .ref 88]
      refine kx_go 1 (pc' := 53) (lv' := [.ref 88, .int x1, .int x2]) (st' := [.int x2, .int (M_Model_above (2 : Int32)), .ref 88]) hX ok_Model_draws rfl ?_
      refine kx_bind (fun p5 hp5 => ?_)
      refine kx_V (r := 88) (as := [.int (M_Model_above (2 : Int32)), .int x2]) (by decide) hX ok_Model_draws (nx := 56) rfl l_Model_285 (by decide) rfl (fun _ => hudraws (M_Model_above (2 : Int32)) x2 p4 p5 hp5) (by omega) rfl (rest := []) rfl (Nat.le_of_ble_eq_true rfl) ⟨Nat.le_of_ble_eq_true rfl, Nat.le_of_ble_eq_true rfl⟩ ?_
      show _ → kW G X m_Model_draws C p5.2 0 0 56 [.ref 88, .int x1, .int x2] [.int p5.1]
      refine kx_go 2 (pc' := 58) (lv' := [.ref 88, .int x1, .int x2]) (st' := [.int (p5.1 * (3 : Int32))]) hX ok_Model_draws rfl ?_
      intro h; have h := Option.some.inj h; subst h
      exact kx_iret hX hE ok_Model_draws (nx := 59) rfl rfl ⟨Nat.le_of_ble_eq_true rfl, Nat.le_of_ble_eq_true rfl⟩
    · refine kx_sw0 ?_
      refine kx_go 2 (pc' := 61) (lv' := [.ref 88, .int x1, .int x2]) (st' := [.int x1, .ref 88]) hX ok_Model_draws rfl ?_
      refine kx_S (as := [.int x1]) hX ok_Model_draws (nx := 64) rfl l_Model_184 (fun _ => s_Model_above (G := G) (d := 0) (Nat.le_refl _) C I x1 _ rfl) (by omega) rfl (rest := [.ref 88]) rfl (Nat.le_of_ble_eq_true rfl) ⟨Nat.le_of_ble_eq_true rfl, Nat.le_of_ble_eq_true rfl⟩ ?_
      show _ → kW G X m_Model_draws C I 0 0 64 [.ref 88, .int x1, .int x2] [.int (M_Model_above x1), .ref 88]
      refine kx_go 1 (pc' := 65) (lv' := [.ref 88, .int x1, .int x2]) (st' := [.int x2, .int (M_Model_above x1), .ref 88]) hX ok_Model_draws rfl ?_
      refine kx_bind (fun p6 hp6 => ?_)
      refine kx_V (r := 88) (as := [.int (M_Model_above x1), .int x2]) (by decide) hX ok_Model_draws (nx := 68) rfl l_Model_285 (by decide) rfl (fun _ => hudraws (M_Model_above x1) x2 I p6 hp6) (by omega) rfl (rest := []) rfl (Nat.le_of_ble_eq_true rfl) ⟨Nat.le_of_ble_eq_true rfl, Nat.le_of_ble_eq_true rfl⟩ ?_
      show _ → kW G X m_Model_draws C p6.2 0 0 68 [.ref 88, .int x1, .int x2] [.int p6.1]
      intro h; have h := Option.some.inj h; subst h
      exact kx_iret hX hE ok_Model_draws (nx := 69) rfl rfl ⟨Nat.le_of_ble_eq_true rfl, Nat.le_of_ble_eq_true rfl⟩
def U_draws : Nat → Int32 → Int32 → HI → Option (Int32 × HI)
  | 0, _, _, _ => none
  | f + 1, a, b, I => M_Model_draws (U_draws f) I a b
theorem s_U_draws {G : xG} (C : HC) : ∀ (f : Nat) (a b : Int32) (I : HI) (r : Int32 × HI), U_draws f a b I = some r → kM G (2 * f) m_Model_draws [.ref 88, .int a, .int b] C I 0 0 (some (.int r.1)) C r.2 := by
  intro f
  induction f with
  | zero => intro a b I r h; rw [U_draws] at h; cases h
  | succ f ih =>
    intro a b I r h
    rw [U_draws] at h
    exact s_Model_draws (dudraws := 2 * f) (by omega) (U_draws f) C I a b ih r h
def M_Model_of (I : HI) (x1 : Int32) (x2 : Int32) : Option (Int32) := grd (bnd (((5 : Int32) + ((7 : Int32) * x1)) + x2) 270) (some (I 89 (((5 : Int32) + ((7 : Int32) * x1)) + x2).toNatClampNeg))
theorem s_Model_of {G : xG} {d : Nat} (hd : 0 ≤ d) (C : HC) (I : HI) (x1 : Int32) (x2 : Int32)  (r : Int32) : M_Model_of I x1 x2 = some r → kM G d m_Model_of [.ref 88, .int x1, .int x2] C I 0 0 (some (.int r)) C I := by
  unfold M_Model_of
  refine kM.of (by decide +kernel) (Nat.le_of_ble_eq_true rfl) (lv := [.ref 88, .int x1, .int x2]) rfl (fun X hX hE => ?_)
  refine kx_go 1 (pc' := 1) (lv' := [.ref 88, .int x1, .int x2]) (st' := [.ref 88]) hX ok_Model_of rfl ?_
  refine kx_getp hX ok_Model_of rfl (q := 89) (nx := 4) rfl ?_
  refine kx_go 7 (pc' := 12) (lv' := [.ref 88, .int x1, .int x2]) (st' := [.int (((5 : Int32) + ((7 : Int32) * x1)) + x2), .ref 89]) hX ok_Model_of rfl ?_
  refine kx_iald hX ok_Model_of (w := 270) (nx := 13) rfl (fun b1 => ?_)
  intro h; have h := Option.some.inj h; subst h
  exact kx_iret hX hE ok_Model_of (nx := 14) rfl rfl ⟨Nat.le_of_ble_eq_true rfl, Nat.le_of_ble_eq_true rfl⟩
def M_Model_peels (upeels : Int32 → Int32 → HI → Option (Int32 × HI)) (I : HI) (x1 : Int32) (x2 : Int32) : Option (Int32 × HI) := if x1 = (0 : Int32) then (Option.bind (M_Model_ran I (12 : Int32)) fun p2 => Option.bind (M_Model_of p2 (p2 88 22) (1 : Int32)) fun p3 => some ((x2 - p3), p2)) else (if x1 = (3 : Int32) then (Option.bind (M_Model_ran I (40 : Int32)) fun p5 => Option.bind (upeels (M_Model_above (3 : Int32)) x2 p5) fun p6 => some ((-p6.1), p6.2)) else (if x1 = (6 : Int32) then (Option.bind (M_Model_ran I (70 : Int32)) fun p8 => Option.bind (upeels (M_Model_above (6 : Int32)) x2 p8) fun p9 => some ((p9.1 ^^^ (p9.2 88 22)), p9.2)) else (Option.bind (upeels (M_Model_above x1) x2 I) fun p10 => some (p10.1, p10.2))))
theorem s_Model_peels {G : xG} {d : Nat} {dupeels : Nat} (hd : dupeels + 1 ≤ d) (upeels : Int32 → Int32 → HI → Option (Int32 × HI)) (C : HC) (I : HI) (x1 : Int32) (x2 : Int32)  (hupeels : ∀ (a0 : Int32) (a1 : Int32) (I : HI) (r : Int32 × HI), upeels a0 a1 I = some r → kM G dupeels m_Model_peels [.ref 88, .int a0, .int a1] C I 0 0 (some (.int r.1)) C r.2) (r : Int32 × HI) : M_Model_peels upeels I x1 x2 = some r → kM G d m_Model_peels [.ref 88, .int x1, .int x2] C I 0 0 (some (.int r.1)) C r.2 := by
  unfold M_Model_peels
  refine kM.of (by decide +kernel) (Nat.le_of_ble_eq_true rfl) (lv := [.ref 88, .int x1, .int x2]) rfl (fun X hX hE => ?_)
  refine kx_go 2 (pc' := xtsw x1 [((0 : Int32), 36), ((3 : Int32), 54), ((6 : Int32), 71)] 93) (lv' := [.ref 88, .int x1, .int x2]) (st' := []) hX ok_Model_peels rfl ?_
  refine kx_sw (fun c1 => ?_) (fun c1 => ?_)
  · refine kx_go 2 (pc' := 39) (lv' := [.ref 88, .int x1, .int x2]) (st' := [.int (12 : Int32), .ref 88]) hX ok_Model_peels rfl ?_
    refine kx_bind (fun p2 hp2 => ?_)
    refine kx_V (r := 88) (as := [.int (12 : Int32)]) (by decide) hX ok_Model_peels (nx := 42) rfl l_Model_281 (by decide) rfl (fun _ => s_Model_ran (G := G) (d := 0) (Nat.le_refl _) C I (12 : Int32) p2 hp2) (by omega) rfl (rest := []) rfl (Nat.le_of_ble_eq_true rfl) ⟨Nat.le_of_ble_eq_true rfl, Nat.le_of_ble_eq_true rfl⟩ ?_
    show _ → kW G X m_Model_peels C p2 0 0 42 [.ref 88, .int x1, .int x2] []
    refine kx_go 3 (pc' := 45) (lv' := [.ref 88, .int x1, .int x2]) (st' := [.ref 88, .ref 88, .int x2]) hX ok_Model_peels rfl ?_
    refine kx_geti hX ok_Model_peels rfl (k := 22) (nx := 48) rfl ?_
    refine kx_go 1 (pc' := 49) (lv' := [.ref 88, .int x1, .int x2]) (st' := [.int (1 : Int32), .int (p2 88 22), .ref 88, .int x2]) hX ok_Model_peels rfl ?_
    refine kx_bind (fun p3 hp3 => ?_)
    refine kx_V (r := 88) (as := [.int (p2 88 22), .int (1 : Int32)]) (by decide) hX ok_Model_peels (nx := 52) rfl l_Model_155 (by decide) rfl (fun _ => s_Model_of (G := G) (d := 0) (Nat.le_refl _) C p2 (p2 88 22) (1 : Int32) p3 hp3) (by omega) rfl (rest := [.int x2]) rfl (Nat.le_of_ble_eq_true rfl) ⟨Nat.le_of_ble_eq_true rfl, Nat.le_of_ble_eq_true rfl⟩ ?_
    show _ → kW G X m_Model_peels C p2 0 0 52 [.ref 88, .int x1, .int x2] [.int p3, .int x2]
    refine kx_go 1 (pc' := 53) (lv' := [.ref 88, .int x1, .int x2]) (st' := [.int (x2 - p3)]) hX ok_Model_peels rfl ?_
    intro h; have h := Option.some.inj h; subst h
    exact kx_iret hX hE ok_Model_peels (nx := 54) rfl rfl ⟨Nat.le_of_ble_eq_true rfl, Nat.le_of_ble_eq_true rfl⟩
  · refine kx_sw (fun c4 => ?_) (fun c4 => ?_)
    · refine kx_go 2 (pc' := 57) (lv' := [.ref 88, .int x1, .int x2]) (st' := [.int (40 : Int32), .ref 88]) hX ok_Model_peels rfl ?_
      refine kx_bind (fun p5 hp5 => ?_)
      refine kx_V (r := 88) (as := [.int (40 : Int32)]) (by decide) hX ok_Model_peels (nx := 60) rfl l_Model_281 (by decide) rfl (fun _ => s_Model_ran (G := G) (d := 0) (Nat.le_refl _) C I (40 : Int32) p5 hp5) (by omega) rfl (rest := []) rfl (Nat.le_of_ble_eq_true rfl) ⟨Nat.le_of_ble_eq_true rfl, Nat.le_of_ble_eq_true rfl⟩ ?_
      show _ → kW G X m_Model_peels C p5 0 0 60 [.ref 88, .int x1, .int x2] []
      refine kx_go 2 (pc' := 62) (lv' := [.ref 88, .int x1, .int x2]) (st' := [.int (3 : Int32), .ref 88]) hX ok_Model_peels rfl ?_
      refine kx_S (as := [.int (3 : Int32)]) hX ok_Model_peels (nx := 65) rfl l_Model_184 (fun _ => s_Model_above (G := G) (d := 0) (Nat.le_refl _) C p5 (3 : Int32) _ rfl) (by omega) rfl (rest := [.ref 88]) rfl (Nat.le_of_ble_eq_true rfl) ⟨Nat.le_of_ble_eq_true rfl, Nat.le_of_ble_eq_true rfl⟩ ?_
      show _ → kW G X m_Model_peels C p5 0 0 65 [.ref 88, .int x1, .int x2] [.int (M_Model_above (3 : Int32)), .ref 88]
      refine kx_go 1 (pc' := 66) (lv' := [.ref 88, .int x1, .int x2]) (st' := [.int x2, .int (M_Model_above (3 : Int32)), .ref 88]) hX ok_Model_peels rfl ?_
      refine kx_bind (fun p6 hp6 => ?_)
      refine kx_V (r := 88) (as := [.int (M_Model_above (3 : Int32)), .int x2]) (by decide) hX ok_Model_peels (nx := 69) rfl l_Model_294 (by decide) rfl (fun _ => hupeels (M_Model_above (3 : Int32)) x2 p5 p6 hp6) (by omega) rfl (rest := []) rfl (Nat.le_of_ble_eq_true rfl) ⟨Nat.le_of_ble_eq_true rfl, Nat.le_of_ble_eq_true rfl⟩ ?_
      show _ → kW G X m_Model_peels C p6.2 0 0 69 [.ref 88, .int x1, .int x2] [.int p6.1]
      refine kx_go 1 (pc' := 70) (lv' := [.ref 88, .int x1, .int x2]) (st' := [.int (-p6.1)]) hX ok_Model_peels rfl ?_
      intro h; have h := Option.some.inj h; subst h
      exact kx_iret hX hE ok_Model_peels (nx := 71) rfl rfl ⟨Nat.le_of_ble_eq_true rfl, Nat.le_of_ble_eq_true rfl⟩
    · refine kx_sw (fun c7 => ?_) (fun c7 => ?_)
      · refine kx_go 2 (pc' := 74) (lv' := [.ref 88, .int x1, .int x2]) (st' := [.int (70 : Int32), .ref 88]) hX ok_Model_peels rfl ?_
        refine kx_bind (fun p8 hp8 => ?_)
        refine kx_V (r := 88) (as := [.int (70 : Int32)]) (by decide) hX ok_Model_peels (nx := 77) rfl l_Model_281 (by decide) rfl (fun _ => s_Model_ran (G := G) (d := 0) (Nat.le_refl _) C I (70 : Int32) p8 hp8) (by omega) rfl (rest := []) rfl (Nat.le_of_ble_eq_true rfl) ⟨Nat.le_of_ble_eq_true rfl, Nat.le_of_ble_eq_true rfl⟩ ?_
        show _ → kW G X m_Model_peels C p8 0 0 77 [.ref 88, .int x1, .int x2] []
        refine kx_go 2 (pc' := 80) (lv' := [.ref 88, .int x1, .int x2]) (st' := [.int (6 : Int32), .ref 88]) hX ok_Model_peels rfl ?_
        refine kx_S (as := [.int (6 : Int32)]) hX ok_Model_peels (nx := 83) rfl l_Model_184 (fun _ => s_Model_above (G := G) (d := 0) (Nat.le_refl _) C p8 (6 : Int32) _ rfl) (by omega) rfl (rest := [.ref 88]) rfl (Nat.le_of_ble_eq_true rfl) ⟨Nat.le_of_ble_eq_true rfl, Nat.le_of_ble_eq_true rfl⟩ ?_
        show _ → kW G X m_Model_peels C p8 0 0 83 [.ref 88, .int x1, .int x2] [.int (M_Model_above (6 : Int32)), .ref 88]
        refine kx_go 1 (pc' := 84) (lv' := [.ref 88, .int x1, .int x2]) (st' := [.int x2, .int (M_Model_above (6 : Int32)), .ref 88]) hX ok_Model_peels rfl ?_
        refine kx_bind (fun p9 hp9 => ?_)
        refine kx_V (r := 88) (as := [.int (M_Model_above (6 : Int32)), .int x2]) (by decide) hX ok_Model_peels (nx := 87) rfl l_Model_294 (by decide) rfl (fun _ => hupeels (M_Model_above (6 : Int32)) x2 p8 p9 hp9) (by omega) rfl (rest := []) rfl (Nat.le_of_ble_eq_true rfl) ⟨Nat.le_of_ble_eq_true rfl, Nat.le_of_ble_eq_true rfl⟩ ?_
        show _ → kW G X m_Model_peels C p9.2 0 0 87 [.ref 88, .int x1, .int x2] [.int p9.1]
        refine kx_go 1 (pc' := 88) (lv' := [.ref 88, .int x1, .int x2]) (st' := [.ref 88, .int p9.1]) hX ok_Model_peels rfl ?_
        refine kx_geti hX ok_Model_peels rfl (k := 22) (nx := 91) rfl ?_
        refine kx_go 1 (pc' := 92) (lv' := [.ref 88, .int x1, .int x2]) (st' := [.int (p9.1 ^^^ (p9.2 88 22))]) hX ok_Model_peels rfl ?_
        intro h; have h := Option.some.inj h; subst h
        exact kx_iret hX hE ok_Model_peels (nx := 93) rfl rfl ⟨Nat.le_of_ble_eq_true rfl, Nat.le_of_ble_eq_true rfl⟩
      · refine kx_sw0 ?_
        refine kx_go 2 (pc' := 95) (lv' := [.ref 88, .int x1, .int x2]) (st' := [.int x1, .ref 88]) hX ok_Model_peels rfl ?_
        refine kx_S (as := [.int x1]) hX ok_Model_peels (nx := 98) rfl l_Model_184 (fun _ => s_Model_above (G := G) (d := 0) (Nat.le_refl _) C I x1 _ rfl) (by omega) rfl (rest := [.ref 88]) rfl (Nat.le_of_ble_eq_true rfl) ⟨Nat.le_of_ble_eq_true rfl, Nat.le_of_ble_eq_true rfl⟩ ?_
        show _ → kW G X m_Model_peels C I 0 0 98 [.ref 88, .int x1, .int x2] [.int (M_Model_above x1), .ref 88]
        refine kx_go 1 (pc' := 99) (lv' := [.ref 88, .int x1, .int x2]) (st' := [.int x2, .int (M_Model_above x1), .ref 88]) hX ok_Model_peels rfl ?_
        refine kx_bind (fun p10 hp10 => ?_)
        refine kx_V (r := 88) (as := [.int (M_Model_above x1), .int x2]) (by decide) hX ok_Model_peels (nx := 102) rfl l_Model_294 (by decide) rfl (fun _ => hupeels (M_Model_above x1) x2 I p10 hp10) (by omega) rfl (rest := []) rfl (Nat.le_of_ble_eq_true rfl) ⟨Nat.le_of_ble_eq_true rfl, Nat.le_of_ble_eq_true rfl⟩ ?_
        show _ → kW G X m_Model_peels C p10.2 0 0 102 [.ref 88, .int x1, .int x2] [.int p10.1]
        intro h; have h := Option.some.inj h; subst h
        exact kx_iret hX hE ok_Model_peels (nx := 103) rfl rfl ⟨Nat.le_of_ble_eq_true rfl, Nat.le_of_ble_eq_true rfl⟩
def U_peels : Nat → Int32 → Int32 → HI → Option (Int32 × HI)
  | 0, _, _, _ => none
  | f + 1, a, b, I => M_Model_peels (U_peels f) I a b
theorem s_U_peels {G : xG} (C : HC) : ∀ (f : Nat) (a b : Int32) (I : HI) (r : Int32 × HI), U_peels f a b I = some r → kM G (2 * f) m_Model_peels [.ref 88, .int a, .int b] C I 0 0 (some (.int r.1)) C r.2 := by
  intro f
  induction f with
  | zero => intro a b I r h; rw [U_peels] at h; cases h
  | succ f ih =>
    intro a b I r h
    rw [U_peels] at h
    exact s_Model_peels (dupeels := 2 * f) (by omega) (U_peels f) C I a b ih r h
def M_Model_own (I : HI) : Option (Int32) := Option.bind (M_Model_of I (I 88 22) (0 : Int32)) fun p1 => some p1
theorem s_Model_own {G : xG} {d : Nat} (hd : 1 ≤ d) (C : HC) (I : HI)   (r : Int32) : M_Model_own I = some r → kM G d m_Model_own [.ref 88] C I 0 0 (some (.int r)) C I := by
  unfold M_Model_own
  refine kM.of (by decide +kernel) (Nat.le_of_ble_eq_true rfl) (lv := [.ref 88]) rfl (fun X hX hE => ?_)
  refine kx_go 2 (pc' := 2) (lv' := [.ref 88]) (st' := [.ref 88, .ref 88]) hX ok_Model_own rfl ?_
  refine kx_geti hX ok_Model_own rfl (k := 22) (nx := 5) rfl ?_
  refine kx_go 1 (pc' := 6) (lv' := [.ref 88]) (st' := [.int (0 : Int32), .int (I 88 22), .ref 88]) hX ok_Model_own rfl ?_
  refine kx_bind (fun p1 hp1 => ?_)
  refine kx_V (r := 88) (as := [.int (I 88 22), .int (0 : Int32)]) (by decide) hX ok_Model_own (nx := 9) rfl l_Model_155 (by decide) rfl (fun _ => s_Model_of (G := G) (d := 0) (Nat.le_refl _) C I (I 88 22) (0 : Int32) p1 hp1) (by omega) rfl (rest := []) rfl (Nat.le_of_ble_eq_true rfl) ⟨Nat.le_of_ble_eq_true rfl, Nat.le_of_ble_eq_true rfl⟩ ?_
  show _ → kW G X m_Model_own C I 0 0 9 [.ref 88] [.int p1]
  intro h; have h := Option.some.inj h; subst h
  exact kx_iret hX hE ok_Model_own (nx := 10) rfl rfl ⟨Nat.le_of_ble_eq_true rfl, Nat.le_of_ble_eq_true rfl⟩
def M_Model_dries (udries : Int32 → Int32 → HI → Option (Int32 × HI)) (I : HI) (x1 : Int32) (x2 : Int32) : Option (Int32 × HI) := if x1 = (0 : Int32) then (Option.bind (M_Model_ran I (11 : Int32)) fun p2 => Option.bind (M_Model_own p2) fun p3 => Option.bind (M_Model_draws (U_draws 4) p2 p3 x2) fun p4 => some ((p4.1 * (2 : Int32)), p4.2)) else (if x1 = (1 : Int32) then (Option.bind (M_Model_ran I (20 : Int32)) fun p6 => Option.bind (udries (M_Model_above (1 : Int32)) x2 p6) fun p7 => Option.bind (M_Model_own p7.2) fun p8 => Option.bind (M_Model_peels (U_peels 4) p7.2 p8 (1 : Int32)) fun p9 => some ((p7.1 - p9.1), p9.2)) else (if x1 = (2 : Int32) then (Option.bind (udries (M_Model_above x1) x2 I) fun p11 => some (p11.1, p11.2)) else (if x1 = (3 : Int32) then (Option.bind (udries (M_Model_above x1) x2 I) fun p13 => some (p13.1, p13.2)) else (if x1 = (4 : Int32) then (Option.bind (M_Model_ran I (50 : Int32)) fun p15 => Option.bind (udries (M_Model_above (4 : Int32)) (x2 + (1 : Int32)) p15) fun p16 => some (p16.1, p16.2)) else (Option.bind (udries (M_Model_above x1) x2 I) fun p17 => some (p17.1, p17.2))))))
theorem s_Model_dries {G : xG} {d : Nat} {dudries : Nat} (hd : dudries + 10 ≤ d) (udries : Int32 → Int32 → HI → Option (Int32 × HI)) (C : HC) (I : HI) (x1 : Int32) (x2 : Int32)  (hudries : ∀ (a0 : Int32) (a1 : Int32) (I : HI) (r : Int32 × HI), udries a0 a1 I = some r → kM G dudries m_Model_dries [.ref 88, .int a0, .int a1] C I 0 0 (some (.int r.1)) C r.2) (r : Int32 × HI) : M_Model_dries udries I x1 x2 = some r → kM G d m_Model_dries [.ref 88, .int x1, .int x2] C I 0 0 (some (.int r.1)) C r.2 := by
  unfold M_Model_dries
  refine kM.of (by decide +kernel) (Nat.le_of_ble_eq_true rfl) (lv := [.ref 88, .int x1, .int x2, .null]) rfl (fun X hX hE => ?_)
  refine kx_go 2 (pc' := xtsw x1 [((0 : Int32), 36), ((1 : Int32), 54), ((2 : Int32), 100), ((3 : Int32), 100), ((4 : Int32), 82)] 100) (lv' := [.ref 88, .int x1, .int x2, .null]) (st' := []) hX ok_Model_dries rfl ?_
  refine kx_sw (fun c1 => ?_) (fun c1 => ?_)
  · refine kx_go 2 (pc' := 39) (lv' := [.ref 88, .int x1, .int x2, .null]) (st' := [.int (11 : Int32), .ref 88]) hX ok_Model_dries rfl ?_
    refine kx_bind (fun p2 hp2 => ?_)
    refine kx_V (r := 88) (as := [.int (11 : Int32)]) (by decide) hX ok_Model_dries (nx := 42) rfl l_Model_281 (by decide) rfl (fun _ => s_Model_ran (G := G) (d := 0) (Nat.le_refl _) C I (11 : Int32) p2 hp2) (by omega) rfl (rest := []) rfl (Nat.le_of_ble_eq_true rfl) ⟨Nat.le_of_ble_eq_true rfl, Nat.le_of_ble_eq_true rfl⟩ ?_
    show _ → kW G X m_Model_dries C p2 0 0 42 [.ref 88, .int x1, .int x2, .null] []
    refine kx_go 2 (pc' := 44) (lv' := [.ref 88, .int x1, .int x2, .null]) (st' := [.ref 88, .ref 88]) hX ok_Model_dries rfl ?_
    refine kx_bind (fun p3 hp3 => ?_)
    refine kx_V (r := 88) (as := []) (by decide) hX ok_Model_dries (nx := 47) rfl l_Model_288 (by decide) rfl (fun _ => s_Model_own (G := G) (d := 1) (Nat.le_refl _) C p2  p3 hp3) (by omega) rfl (rest := [.ref 88]) rfl (Nat.le_of_ble_eq_true rfl) ⟨Nat.le_of_ble_eq_true rfl, Nat.le_of_ble_eq_true rfl⟩ ?_
    show _ → kW G X m_Model_dries C p2 0 0 47 [.ref 88, .int x1, .int x2, .null] [.int p3, .ref 88]
    refine kx_go 1 (pc' := 48) (lv' := [.ref 88, .int x1, .int x2, .null]) (st' := [.int x2, .int p3, .ref 88]) hX ok_Model_dries rfl ?_
    refine kx_bind (fun p4 hp4 => ?_)
    refine kx_V (r := 88) (as := [.int p3, .int x2]) (by decide) hX ok_Model_dries (nx := 51) rfl l_Model_285 (by decide) rfl (fun _ => s_Model_draws (G := G) (d := 8 + 1) (Nat.le_refl _) (U_draws 4) C p2 p3 x2 (s_U_draws C 4) p4 hp4) (by omega) rfl (rest := []) rfl (Nat.le_of_ble_eq_true rfl) ⟨Nat.le_of_ble_eq_true rfl, Nat.le_of_ble_eq_true rfl⟩ ?_
    show _ → kW G X m_Model_dries C p4.2 0 0 51 [.ref 88, .int x1, .int x2, .null] [.int p4.1]
    refine kx_go 2 (pc' := 53) (lv' := [.ref 88, .int x1, .int x2, .null]) (st' := [.int (p4.1 * (2 : Int32))]) hX ok_Model_dries rfl ?_
    intro h; have h := Option.some.inj h; subst h
    exact kx_iret hX hE ok_Model_dries (nx := 54) rfl rfl ⟨Nat.le_of_ble_eq_true rfl, Nat.le_of_ble_eq_true rfl⟩
  · refine kx_sw (fun c5 => ?_) (fun c5 => ?_)
    · refine kx_go 2 (pc' := 57) (lv' := [.ref 88, .int x1, .int x2, .null]) (st' := [.int (20 : Int32), .ref 88]) hX ok_Model_dries rfl ?_
      refine kx_bind (fun p6 hp6 => ?_)
      refine kx_V (r := 88) (as := [.int (20 : Int32)]) (by decide) hX ok_Model_dries (nx := 60) rfl l_Model_281 (by decide) rfl (fun _ => s_Model_ran (G := G) (d := 0) (Nat.le_refl _) C I (20 : Int32) p6 hp6) (by omega) rfl (rest := []) rfl (Nat.le_of_ble_eq_true rfl) ⟨Nat.le_of_ble_eq_true rfl, Nat.le_of_ble_eq_true rfl⟩ ?_
      show _ → kW G X m_Model_dries C p6 0 0 60 [.ref 88, .int x1, .int x2, .null] []
      refine kx_go 2 (pc' := 62) (lv' := [.ref 88, .int x1, .int x2, .null]) (st' := [.int (1 : Int32), .ref 88]) hX ok_Model_dries rfl ?_
      refine kx_S (as := [.int (1 : Int32)]) hX ok_Model_dries (nx := 65) rfl l_Model_184 (fun _ => s_Model_above (G := G) (d := 0) (Nat.le_refl _) C p6 (1 : Int32) _ rfl) (by omega) rfl (rest := [.ref 88]) rfl (Nat.le_of_ble_eq_true rfl) ⟨Nat.le_of_ble_eq_true rfl, Nat.le_of_ble_eq_true rfl⟩ ?_
      show _ → kW G X m_Model_dries C p6 0 0 65 [.ref 88, .int x1, .int x2, .null] [.int (M_Model_above (1 : Int32)), .ref 88]
      refine kx_go 1 (pc' := 66) (lv' := [.ref 88, .int x1, .int x2, .null]) (st' := [.int x2, .int (M_Model_above (1 : Int32)), .ref 88]) hX ok_Model_dries rfl ?_
      refine kx_bind (fun p7 hp7 => ?_)
      refine kx_V (r := 88) (as := [.int (M_Model_above (1 : Int32)), .int x2]) (by decide) hX ok_Model_dries (nx := 69) rfl l_Model_291 (by decide) rfl (fun _ => hudries (M_Model_above (1 : Int32)) x2 p6 p7 hp7) (by omega) rfl (rest := []) rfl (Nat.le_of_ble_eq_true rfl) ⟨Nat.le_of_ble_eq_true rfl, Nat.le_of_ble_eq_true rfl⟩ ?_
      show _ → kW G X m_Model_dries C p7.2 0 0 69 [.ref 88, .int x1, .int x2, .null] [.int p7.1]
      refine kx_go 4 (pc' := 73) (lv' := [.ref 88, .int x1, .int x2, .int p7.1]) (st' := [.ref 88, .ref 88, .int p7.1]) hX ok_Model_dries rfl ?_
      refine kx_bind (fun p8 hp8 => ?_)
      refine kx_V (r := 88) (as := []) (by decide) hX ok_Model_dries (nx := 76) rfl l_Model_288 (by decide) rfl (fun _ => s_Model_own (G := G) (d := 1) (Nat.le_refl _) C p7.2  p8 hp8) (by omega) rfl (rest := [.ref 88, .int p7.1]) rfl (Nat.le_of_ble_eq_true rfl) ⟨Nat.le_of_ble_eq_true rfl, Nat.le_of_ble_eq_true rfl⟩ ?_
      show _ → kW G X m_Model_dries C p7.2 0 0 76 [.ref 88, .int x1, .int x2, .int p7.1] [.int p8, .ref 88, .int p7.1]
      refine kx_go 1 (pc' := 77) (lv' := [.ref 88, .int x1, .int x2, .int p7.1]) (st' := [.int (1 : Int32), .int p8, .ref 88, .int p7.1]) hX ok_Model_dries rfl ?_
      refine kx_bind (fun p9 hp9 => ?_)
      refine kx_V (r := 88) (as := [.int p8, .int (1 : Int32)]) (by decide) hX ok_Model_dries (nx := 80) rfl l_Model_294 (by decide) rfl (fun _ => s_Model_peels (G := G) (d := 8 + 1) (Nat.le_refl _) (U_peels 4) C p7.2 p8 (1 : Int32) (s_U_peels C 4) p9 hp9) (by omega) rfl (rest := [.int p7.1]) rfl (Nat.le_of_ble_eq_true rfl) ⟨Nat.le_of_ble_eq_true rfl, Nat.le_of_ble_eq_true rfl⟩ ?_
      show _ → kW G X m_Model_dries C p9.2 0 0 80 [.ref 88, .int x1, .int x2, .int p7.1] [.int p9.1, .int p7.1]
      refine kx_go 1 (pc' := 81) (lv' := [.ref 88, .int x1, .int x2, .int p7.1]) (st' := [.int (p7.1 - p9.1)]) hX ok_Model_dries rfl ?_
      intro h; have h := Option.some.inj h; subst h
      exact kx_iret hX hE ok_Model_dries (nx := 82) rfl rfl ⟨Nat.le_of_ble_eq_true rfl, Nat.le_of_ble_eq_true rfl⟩
    · refine kx_sw (fun c10 => ?_) (fun c10 => ?_)
      · refine kx_go 2 (pc' := 102) (lv' := [.ref 88, .int x1, .int x2, .null]) (st' := [.int x1, .ref 88]) hX ok_Model_dries rfl ?_
        refine kx_S (as := [.int x1]) hX ok_Model_dries (nx := 105) rfl l_Model_184 (fun _ => s_Model_above (G := G) (d := 0) (Nat.le_refl _) C I x1 _ rfl) (by omega) rfl (rest := [.ref 88]) rfl (Nat.le_of_ble_eq_true rfl) ⟨Nat.le_of_ble_eq_true rfl, Nat.le_of_ble_eq_true rfl⟩ ?_
        show _ → kW G X m_Model_dries C I 0 0 105 [.ref 88, .int x1, .int x2, .null] [.int (M_Model_above x1), .ref 88]
        refine kx_go 1 (pc' := 106) (lv' := [.ref 88, .int x1, .int x2, .null]) (st' := [.int x2, .int (M_Model_above x1), .ref 88]) hX ok_Model_dries rfl ?_
        refine kx_bind (fun p11 hp11 => ?_)
        refine kx_V (r := 88) (as := [.int (M_Model_above x1), .int x2]) (by decide) hX ok_Model_dries (nx := 109) rfl l_Model_291 (by decide) rfl (fun _ => hudries (M_Model_above x1) x2 I p11 hp11) (by omega) rfl (rest := []) rfl (Nat.le_of_ble_eq_true rfl) ⟨Nat.le_of_ble_eq_true rfl, Nat.le_of_ble_eq_true rfl⟩ ?_
        show _ → kW G X m_Model_dries C p11.2 0 0 109 [.ref 88, .int x1, .int x2, .null] [.int p11.1]
        intro h; have h := Option.some.inj h; subst h
        exact kx_iret hX hE ok_Model_dries (nx := 110) rfl rfl ⟨Nat.le_of_ble_eq_true rfl, Nat.le_of_ble_eq_true rfl⟩
      · refine kx_sw (fun c12 => ?_) (fun c12 => ?_)
        · refine kx_go 2 (pc' := 102) (lv' := [.ref 88, .int x1, .int x2, .null]) (st' := [.int x1, .ref 88]) hX ok_Model_dries rfl ?_
          refine kx_S (as := [.int x1]) hX ok_Model_dries (nx := 105) rfl l_Model_184 (fun _ => s_Model_above (G := G) (d := 0) (Nat.le_refl _) C I x1 _ rfl) (by omega) rfl (rest := [.ref 88]) rfl (Nat.le_of_ble_eq_true rfl) ⟨Nat.le_of_ble_eq_true rfl, Nat.le_of_ble_eq_true rfl⟩ ?_
          show _ → kW G X m_Model_dries C I 0 0 105 [.ref 88, .int x1, .int x2, .null] [.int (M_Model_above x1), .ref 88]
          refine kx_go 1 (pc' := 106) (lv' := [.ref 88, .int x1, .int x2, .null]) (st' := [.int x2, .int (M_Model_above x1), .ref 88]) hX ok_Model_dries rfl ?_
          refine kx_bind (fun p13 hp13 => ?_)
          refine kx_V (r := 88) (as := [.int (M_Model_above x1), .int x2]) (by decide) hX ok_Model_dries (nx := 109) rfl l_Model_291 (by decide) rfl (fun _ => hudries (M_Model_above x1) x2 I p13 hp13) (by omega) rfl (rest := []) rfl (Nat.le_of_ble_eq_true rfl) ⟨Nat.le_of_ble_eq_true rfl, Nat.le_of_ble_eq_true rfl⟩ ?_
          show _ → kW G X m_Model_dries C p13.2 0 0 109 [.ref 88, .int x1, .int x2, .null] [.int p13.1]
          intro h; have h := Option.some.inj h; subst h
          exact kx_iret hX hE ok_Model_dries (nx := 110) rfl rfl ⟨Nat.le_of_ble_eq_true rfl, Nat.le_of_ble_eq_true rfl⟩
        · refine kx_sw (fun c14 => ?_) (fun c14 => ?_)
          · refine kx_go 2 (pc' := 85) (lv' := [.ref 88, .int x1, .int x2, .null]) (st' := [.int (50 : Int32), .ref 88]) hX ok_Model_dries rfl ?_
            refine kx_bind (fun p15 hp15 => ?_)
            refine kx_V (r := 88) (as := [.int (50 : Int32)]) (by decide) hX ok_Model_dries (nx := 88) rfl l_Model_281 (by decide) rfl (fun _ => s_Model_ran (G := G) (d := 0) (Nat.le_refl _) C I (50 : Int32) p15 hp15) (by omega) rfl (rest := []) rfl (Nat.le_of_ble_eq_true rfl) ⟨Nat.le_of_ble_eq_true rfl, Nat.le_of_ble_eq_true rfl⟩ ?_
            show _ → kW G X m_Model_dries C p15 0 0 88 [.ref 88, .int x1, .int x2, .null] []
            refine kx_go 2 (pc' := 90) (lv' := [.ref 88, .int x1, .int x2, .null]) (st' := [.int (4 : Int32), .ref 88]) hX ok_Model_dries rfl ?_
            refine kx_S (as := [.int (4 : Int32)]) hX ok_Model_dries (nx := 93) rfl l_Model_184 (fun _ => s_Model_above (G := G) (d := 0) (Nat.le_refl _) C p15 (4 : Int32) _ rfl) (by omega) rfl (rest := [.ref 88]) rfl (Nat.le_of_ble_eq_true rfl) ⟨Nat.le_of_ble_eq_true rfl, Nat.le_of_ble_eq_true rfl⟩ ?_
            show _ → kW G X m_Model_dries C p15 0 0 93 [.ref 88, .int x1, .int x2, .null] [.int (M_Model_above (4 : Int32)), .ref 88]
            refine kx_go 3 (pc' := 96) (lv' := [.ref 88, .int x1, .int x2, .null]) (st' := [.int (x2 + (1 : Int32)), .int (M_Model_above (4 : Int32)), .ref 88]) hX ok_Model_dries rfl ?_
            refine kx_bind (fun p16 hp16 => ?_)
            refine kx_V (r := 88) (as := [.int (M_Model_above (4 : Int32)), .int (x2 + (1 : Int32))]) (by decide) hX ok_Model_dries (nx := 99) rfl l_Model_291 (by decide) rfl (fun _ => hudries (M_Model_above (4 : Int32)) (x2 + (1 : Int32)) p15 p16 hp16) (by omega) rfl (rest := []) rfl (Nat.le_of_ble_eq_true rfl) ⟨Nat.le_of_ble_eq_true rfl, Nat.le_of_ble_eq_true rfl⟩ ?_
            show _ → kW G X m_Model_dries C p16.2 0 0 99 [.ref 88, .int x1, .int x2, .null] [.int p16.1]
            intro h; have h := Option.some.inj h; subst h
            exact kx_iret hX hE ok_Model_dries (nx := 100) rfl rfl ⟨Nat.le_of_ble_eq_true rfl, Nat.le_of_ble_eq_true rfl⟩
          · refine kx_sw0 ?_
            refine kx_go 2 (pc' := 102) (lv' := [.ref 88, .int x1, .int x2, .null]) (st' := [.int x1, .ref 88]) hX ok_Model_dries rfl ?_
            refine kx_S (as := [.int x1]) hX ok_Model_dries (nx := 105) rfl l_Model_184 (fun _ => s_Model_above (G := G) (d := 0) (Nat.le_refl _) C I x1 _ rfl) (by omega) rfl (rest := [.ref 88]) rfl (Nat.le_of_ble_eq_true rfl) ⟨Nat.le_of_ble_eq_true rfl, Nat.le_of_ble_eq_true rfl⟩ ?_
            show _ → kW G X m_Model_dries C I 0 0 105 [.ref 88, .int x1, .int x2, .null] [.int (M_Model_above x1), .ref 88]
            refine kx_go 1 (pc' := 106) (lv' := [.ref 88, .int x1, .int x2, .null]) (st' := [.int x2, .int (M_Model_above x1), .ref 88]) hX ok_Model_dries rfl ?_
            refine kx_bind (fun p17 hp17 => ?_)
            refine kx_V (r := 88) (as := [.int (M_Model_above x1), .int x2]) (by decide) hX ok_Model_dries (nx := 109) rfl l_Model_291 (by decide) rfl (fun _ => hudries (M_Model_above x1) x2 I p17 hp17) (by omega) rfl (rest := []) rfl (Nat.le_of_ble_eq_true rfl) ⟨Nat.le_of_ble_eq_true rfl, Nat.le_of_ble_eq_true rfl⟩ ?_
            show _ → kW G X m_Model_dries C p17.2 0 0 109 [.ref 88, .int x1, .int x2, .null] [.int p17.1]
            intro h; have h := Option.some.inj h; subst h
            exact kx_iret hX hE ok_Model_dries (nx := 110) rfl rfl ⟨Nat.le_of_ble_eq_true rfl, Nat.le_of_ble_eq_true rfl⟩
def U_dries : Nat → Int32 → Int32 → HI → Option (Int32 × HI)
  | 0, _, _, _ => none
  | f + 1, a, b, I => M_Model_dries (U_dries f) I a b
theorem s_U_dries {G : xG} (C : HC) : ∀ (f : Nat) (a b : Int32) (I : HI) (r : Int32 × HI), U_dries f a b I = some r → kM G (12 * f) m_Model_dries [.ref 88, .int a, .int b] C I 0 0 (some (.int r.1)) C r.2 := by
  intro f
  induction f with
  | zero => intro a b I r h; rw [U_dries] at h; cases h
  | succ f ih =>
    intro a b I r h
    rw [U_dries] at h
    exact s_Model_dries (dudries := 12 * f) (by omega) (U_dries f) C I a b ih r h
def M_Model_tells (utells : Int32 → Int32 → HI → Option (Int32 × HI)) (I : HI) (x1 : Int32) (x2 : Int32) : Option (Int32 × HI) := if x1 = (0 : Int32) then (Option.bind (M_Model_ran I (13 : Int32)) fun p2 => Option.bind (M_Model_own p2) fun p3 => Option.bind (M_Model_dries (U_dries 4) p2 p3 x2) fun p4 => Option.bind (M_Model_own p4.2) fun p5 => Option.bind (M_Model_peels (U_peels 4) p4.2 p5 x2) fun p6 => some ((p4.1 ^^^ p6.1), p6.2)) else (if x1 = (5 : Int32) then (Option.bind (M_Model_ran I (60 : Int32)) fun p8 => Option.bind (utells (M_Model_above (5 : Int32)) x2 p8) fun p9 => Option.bind (M_Model_own p9.2) fun p10 => Option.bind (M_Model_draws (U_draws 4) p9.2 p10 (2 : Int32)) fun p11 => some ((p9.1 - p11.1), p11.2)) else (if x1 = (6 : Int32) then (Option.bind (M_Model_ran I (71 : Int32)) fun p13 => Option.bind (M_Model_own p13) fun p14 => Option.bind (M_Model_dries (U_dries 4) p13 p14 x2) fun p15 => Option.bind (utells (M_Model_above (6 : Int32)) x2 p15.2) fun p16 => some ((p15.1 - p16.1), p16.2)) else (Option.bind (utells (M_Model_above x1) x2 I) fun p17 => some (p17.1, p17.2))))
theorem s_Model_tells {G : xG} {d : Nat} {dutells : Nat} (hd : dutells + 59 ≤ d) (utells : Int32 → Int32 → HI → Option (Int32 × HI)) (C : HC) (I : HI) (x1 : Int32) (x2 : Int32)  (hutells : ∀ (a0 : Int32) (a1 : Int32) (I : HI) (r : Int32 × HI), utells a0 a1 I = some r → kM G dutells m_Model_tells [.ref 88, .int a0, .int a1] C I 0 0 (some (.int r.1)) C r.2) (r : Int32 × HI) : M_Model_tells utells I x1 x2 = some r → kM G d m_Model_tells [.ref 88, .int x1, .int x2] C I 0 0 (some (.int r.1)) C r.2 := by
  unfold M_Model_tells
  refine kM.of (by decide +kernel) (Nat.le_of_ble_eq_true rfl) (lv := [.ref 88, .int x1, .int x2, .null]) rfl (fun X hX hE => ?_)
  refine kx_go 2 (pc' := xtsw x1 [((0 : Int32), 36), ((5 : Int32), 64), ((6 : Int32), 92)] 121) (lv' := [.ref 88, .int x1, .int x2, .null]) (st' := []) hX ok_Model_tells rfl ?_
  refine kx_sw (fun c1 => ?_) (fun c1 => ?_)
  · refine kx_go 2 (pc' := 39) (lv' := [.ref 88, .int x1, .int x2, .null]) (st' := [.int (13 : Int32), .ref 88]) hX ok_Model_tells rfl ?_
    refine kx_bind (fun p2 hp2 => ?_)
    refine kx_V (r := 88) (as := [.int (13 : Int32)]) (by decide) hX ok_Model_tells (nx := 42) rfl l_Model_281 (by decide) rfl (fun _ => s_Model_ran (G := G) (d := 0) (Nat.le_refl _) C I (13 : Int32) p2 hp2) (by omega) rfl (rest := []) rfl (Nat.le_of_ble_eq_true rfl) ⟨Nat.le_of_ble_eq_true rfl, Nat.le_of_ble_eq_true rfl⟩ ?_
    show _ → kW G X m_Model_tells C p2 0 0 42 [.ref 88, .int x1, .int x2, .null] []
    refine kx_go 2 (pc' := 44) (lv' := [.ref 88, .int x1, .int x2, .null]) (st' := [.ref 88, .ref 88]) hX ok_Model_tells rfl ?_
    refine kx_bind (fun p3 hp3 => ?_)
    refine kx_V (r := 88) (as := []) (by decide) hX ok_Model_tells (nx := 47) rfl l_Model_288 (by decide) rfl (fun _ => s_Model_own (G := G) (d := 1) (Nat.le_refl _) C p2  p3 hp3) (by omega) rfl (rest := [.ref 88]) rfl (Nat.le_of_ble_eq_true rfl) ⟨Nat.le_of_ble_eq_true rfl, Nat.le_of_ble_eq_true rfl⟩ ?_
    show _ → kW G X m_Model_tells C p2 0 0 47 [.ref 88, .int x1, .int x2, .null] [.int p3, .ref 88]
    refine kx_go 1 (pc' := 48) (lv' := [.ref 88, .int x1, .int x2, .null]) (st' := [.int x2, .int p3, .ref 88]) hX ok_Model_tells rfl ?_
    refine kx_bind (fun p4 hp4 => ?_)
    refine kx_V (r := 88) (as := [.int p3, .int x2]) (by decide) hX ok_Model_tells (nx := 51) rfl l_Model_291 (by decide) rfl (fun _ => s_Model_dries (G := G) (d := 48 + 10) (Nat.le_refl _) (U_dries 4) C p2 p3 x2 (s_U_dries C 4) p4 hp4) (by omega) rfl (rest := []) rfl (Nat.le_of_ble_eq_true rfl) ⟨Nat.le_of_ble_eq_true rfl, Nat.le_of_ble_eq_true rfl⟩ ?_
    show _ → kW G X m_Model_tells C p4.2 0 0 51 [.ref 88, .int x1, .int x2, .null] [.int p4.1]
    refine kx_go 4 (pc' := 55) (lv' := [.ref 88, .int x1, .int x2, .int p4.1]) (st' := [.ref 88, .ref 88, .int p4.1]) hX ok_Model_tells rfl ?_
    refine kx_bind (fun p5 hp5 => ?_)
    refine kx_V (r := 88) (as := []) (by decide) hX ok_Model_tells (nx := 58) rfl l_Model_288 (by decide) rfl (fun _ => s_Model_own (G := G) (d := 1) (Nat.le_refl _) C p4.2  p5 hp5) (by omega) rfl (rest := [.ref 88, .int p4.1]) rfl (Nat.le_of_ble_eq_true rfl) ⟨Nat.le_of_ble_eq_true rfl, Nat.le_of_ble_eq_true rfl⟩ ?_
    show _ → kW G X m_Model_tells C p4.2 0 0 58 [.ref 88, .int x1, .int x2, .int p4.1] [.int p5, .ref 88, .int p4.1]
    refine kx_go 1 (pc' := 59) (lv' := [.ref 88, .int x1, .int x2, .int p4.1]) (st' := [.int x2, .int p5, .ref 88, .int p4.1]) hX ok_Model_tells rfl ?_
    refine kx_bind (fun p6 hp6 => ?_)
    refine kx_V (r := 88) (as := [.int p5, .int x2]) (by decide) hX ok_Model_tells (nx := 62) rfl l_Model_294 (by decide) rfl (fun _ => s_Model_peels (G := G) (d := 8 + 1) (Nat.le_refl _) (U_peels 4) C p4.2 p5 x2 (s_U_peels C 4) p6 hp6) (by omega) rfl (rest := [.int p4.1]) rfl (Nat.le_of_ble_eq_true rfl) ⟨Nat.le_of_ble_eq_true rfl, Nat.le_of_ble_eq_true rfl⟩ ?_
    show _ → kW G X m_Model_tells C p6.2 0 0 62 [.ref 88, .int x1, .int x2, .int p4.1] [.int p6.1, .int p4.1]
    refine kx_go 1 (pc' := 63) (lv' := [.ref 88, .int x1, .int x2, .int p4.1]) (st' := [.int (p4.1 ^^^ p6.1)]) hX ok_Model_tells rfl ?_
    intro h; have h := Option.some.inj h; subst h
    exact kx_iret hX hE ok_Model_tells (nx := 64) rfl rfl ⟨Nat.le_of_ble_eq_true rfl, Nat.le_of_ble_eq_true rfl⟩
  · refine kx_sw (fun c7 => ?_) (fun c7 => ?_)
    · refine kx_go 2 (pc' := 67) (lv' := [.ref 88, .int x1, .int x2, .null]) (st' := [.int (60 : Int32), .ref 88]) hX ok_Model_tells rfl ?_
      refine kx_bind (fun p8 hp8 => ?_)
      refine kx_V (r := 88) (as := [.int (60 : Int32)]) (by decide) hX ok_Model_tells (nx := 70) rfl l_Model_281 (by decide) rfl (fun _ => s_Model_ran (G := G) (d := 0) (Nat.le_refl _) C I (60 : Int32) p8 hp8) (by omega) rfl (rest := []) rfl (Nat.le_of_ble_eq_true rfl) ⟨Nat.le_of_ble_eq_true rfl, Nat.le_of_ble_eq_true rfl⟩ ?_
      show _ → kW G X m_Model_tells C p8 0 0 70 [.ref 88, .int x1, .int x2, .null] []
      refine kx_go 2 (pc' := 72) (lv' := [.ref 88, .int x1, .int x2, .null]) (st' := [.int (5 : Int32), .ref 88]) hX ok_Model_tells rfl ?_
      refine kx_S (as := [.int (5 : Int32)]) hX ok_Model_tells (nx := 75) rfl l_Model_184 (fun _ => s_Model_above (G := G) (d := 0) (Nat.le_refl _) C p8 (5 : Int32) _ rfl) (by omega) rfl (rest := [.ref 88]) rfl (Nat.le_of_ble_eq_true rfl) ⟨Nat.le_of_ble_eq_true rfl, Nat.le_of_ble_eq_true rfl⟩ ?_
      show _ → kW G X m_Model_tells C p8 0 0 75 [.ref 88, .int x1, .int x2, .null] [.int (M_Model_above (5 : Int32)), .ref 88]
      refine kx_go 1 (pc' := 76) (lv' := [.ref 88, .int x1, .int x2, .null]) (st' := [.int x2, .int (M_Model_above (5 : Int32)), .ref 88]) hX ok_Model_tells rfl ?_
      refine kx_bind (fun p9 hp9 => ?_)
      refine kx_V (r := 88) (as := [.int (M_Model_above (5 : Int32)), .int x2]) (by decide) hX ok_Model_tells (nx := 79) rfl l_Model_297 (by decide) rfl (fun _ => hutells (M_Model_above (5 : Int32)) x2 p8 p9 hp9) (by omega) rfl (rest := []) rfl (Nat.le_of_ble_eq_true rfl) ⟨Nat.le_of_ble_eq_true rfl, Nat.le_of_ble_eq_true rfl⟩ ?_
      show _ → kW G X m_Model_tells C p9.2 0 0 79 [.ref 88, .int x1, .int x2, .null] [.int p9.1]
      refine kx_go 4 (pc' := 83) (lv' := [.ref 88, .int x1, .int x2, .int p9.1]) (st' := [.ref 88, .ref 88, .int p9.1]) hX ok_Model_tells rfl ?_
      refine kx_bind (fun p10 hp10 => ?_)
      refine kx_V (r := 88) (as := []) (by decide) hX ok_Model_tells (nx := 86) rfl l_Model_288 (by decide) rfl (fun _ => s_Model_own (G := G) (d := 1) (Nat.le_refl _) C p9.2  p10 hp10) (by omega) rfl (rest := [.ref 88, .int p9.1]) rfl (Nat.le_of_ble_eq_true rfl) ⟨Nat.le_of_ble_eq_true rfl, Nat.le_of_ble_eq_true rfl⟩ ?_
      show _ → kW G X m_Model_tells C p9.2 0 0 86 [.ref 88, .int x1, .int x2, .int p9.1] [.int p10, .ref 88, .int p9.1]
      refine kx_go 1 (pc' := 87) (lv' := [.ref 88, .int x1, .int x2, .int p9.1]) (st' := [.int (2 : Int32), .int p10, .ref 88, .int p9.1]) hX ok_Model_tells rfl ?_
      refine kx_bind (fun p11 hp11 => ?_)
      refine kx_V (r := 88) (as := [.int p10, .int (2 : Int32)]) (by decide) hX ok_Model_tells (nx := 90) rfl l_Model_285 (by decide) rfl (fun _ => s_Model_draws (G := G) (d := 8 + 1) (Nat.le_refl _) (U_draws 4) C p9.2 p10 (2 : Int32) (s_U_draws C 4) p11 hp11) (by omega) rfl (rest := [.int p9.1]) rfl (Nat.le_of_ble_eq_true rfl) ⟨Nat.le_of_ble_eq_true rfl, Nat.le_of_ble_eq_true rfl⟩ ?_
      show _ → kW G X m_Model_tells C p11.2 0 0 90 [.ref 88, .int x1, .int x2, .int p9.1] [.int p11.1, .int p9.1]
      refine kx_go 1 (pc' := 91) (lv' := [.ref 88, .int x1, .int x2, .int p9.1]) (st' := [.int (p9.1 - p11.1)]) hX ok_Model_tells rfl ?_
      intro h; have h := Option.some.inj h; subst h
      exact kx_iret hX hE ok_Model_tells (nx := 92) rfl rfl ⟨Nat.le_of_ble_eq_true rfl, Nat.le_of_ble_eq_true rfl⟩
    · refine kx_sw (fun c12 => ?_) (fun c12 => ?_)
      · refine kx_go 2 (pc' := 95) (lv' := [.ref 88, .int x1, .int x2, .null]) (st' := [.int (71 : Int32), .ref 88]) hX ok_Model_tells rfl ?_
        refine kx_bind (fun p13 hp13 => ?_)
        refine kx_V (r := 88) (as := [.int (71 : Int32)]) (by decide) hX ok_Model_tells (nx := 98) rfl l_Model_281 (by decide) rfl (fun _ => s_Model_ran (G := G) (d := 0) (Nat.le_refl _) C I (71 : Int32) p13 hp13) (by omega) rfl (rest := []) rfl (Nat.le_of_ble_eq_true rfl) ⟨Nat.le_of_ble_eq_true rfl, Nat.le_of_ble_eq_true rfl⟩ ?_
        show _ → kW G X m_Model_tells C p13 0 0 98 [.ref 88, .int x1, .int x2, .null] []
        refine kx_go 2 (pc' := 100) (lv' := [.ref 88, .int x1, .int x2, .null]) (st' := [.ref 88, .ref 88]) hX ok_Model_tells rfl ?_
        refine kx_bind (fun p14 hp14 => ?_)
        refine kx_V (r := 88) (as := []) (by decide) hX ok_Model_tells (nx := 103) rfl l_Model_288 (by decide) rfl (fun _ => s_Model_own (G := G) (d := 1) (Nat.le_refl _) C p13  p14 hp14) (by omega) rfl (rest := [.ref 88]) rfl (Nat.le_of_ble_eq_true rfl) ⟨Nat.le_of_ble_eq_true rfl, Nat.le_of_ble_eq_true rfl⟩ ?_
        show _ → kW G X m_Model_tells C p13 0 0 103 [.ref 88, .int x1, .int x2, .null] [.int p14, .ref 88]
        refine kx_go 1 (pc' := 104) (lv' := [.ref 88, .int x1, .int x2, .null]) (st' := [.int x2, .int p14, .ref 88]) hX ok_Model_tells rfl ?_
        refine kx_bind (fun p15 hp15 => ?_)
        refine kx_V (r := 88) (as := [.int p14, .int x2]) (by decide) hX ok_Model_tells (nx := 107) rfl l_Model_291 (by decide) rfl (fun _ => s_Model_dries (G := G) (d := 48 + 10) (Nat.le_refl _) (U_dries 4) C p13 p14 x2 (s_U_dries C 4) p15 hp15) (by omega) rfl (rest := []) rfl (Nat.le_of_ble_eq_true rfl) ⟨Nat.le_of_ble_eq_true rfl, Nat.le_of_ble_eq_true rfl⟩ ?_
        show _ → kW G X m_Model_tells C p15.2 0 0 107 [.ref 88, .int x1, .int x2, .null] [.int p15.1]
        refine kx_go 4 (pc' := 112) (lv' := [.ref 88, .int x1, .int x2, .int p15.1]) (st' := [.int (6 : Int32), .ref 88, .int p15.1]) hX ok_Model_tells rfl ?_
        refine kx_S (as := [.int (6 : Int32)]) hX ok_Model_tells (nx := 115) rfl l_Model_184 (fun _ => s_Model_above (G := G) (d := 0) (Nat.le_refl _) C p15.2 (6 : Int32) _ rfl) (by omega) rfl (rest := [.ref 88, .int p15.1]) rfl (Nat.le_of_ble_eq_true rfl) ⟨Nat.le_of_ble_eq_true rfl, Nat.le_of_ble_eq_true rfl⟩ ?_
        show _ → kW G X m_Model_tells C p15.2 0 0 115 [.ref 88, .int x1, .int x2, .int p15.1] [.int (M_Model_above (6 : Int32)), .ref 88, .int p15.1]
        refine kx_go 1 (pc' := 116) (lv' := [.ref 88, .int x1, .int x2, .int p15.1]) (st' := [.int x2, .int (M_Model_above (6 : Int32)), .ref 88, .int p15.1]) hX ok_Model_tells rfl ?_
        refine kx_bind (fun p16 hp16 => ?_)
        refine kx_V (r := 88) (as := [.int (M_Model_above (6 : Int32)), .int x2]) (by decide) hX ok_Model_tells (nx := 119) rfl l_Model_297 (by decide) rfl (fun _ => hutells (M_Model_above (6 : Int32)) x2 p15.2 p16 hp16) (by omega) rfl (rest := [.int p15.1]) rfl (Nat.le_of_ble_eq_true rfl) ⟨Nat.le_of_ble_eq_true rfl, Nat.le_of_ble_eq_true rfl⟩ ?_
        show _ → kW G X m_Model_tells C p16.2 0 0 119 [.ref 88, .int x1, .int x2, .int p15.1] [.int p16.1, .int p15.1]
        refine kx_go 1 (pc' := 120) (lv' := [.ref 88, .int x1, .int x2, .int p15.1]) (st' := [.int (p15.1 - p16.1)]) hX ok_Model_tells rfl ?_
        intro h; have h := Option.some.inj h; subst h
        exact kx_iret hX hE ok_Model_tells (nx := 121) rfl rfl ⟨Nat.le_of_ble_eq_true rfl, Nat.le_of_ble_eq_true rfl⟩
      · refine kx_sw0 ?_
        refine kx_go 2 (pc' := 123) (lv' := [.ref 88, .int x1, .int x2, .null]) (st' := [.int x1, .ref 88]) hX ok_Model_tells rfl ?_
        refine kx_S (as := [.int x1]) hX ok_Model_tells (nx := 126) rfl l_Model_184 (fun _ => s_Model_above (G := G) (d := 0) (Nat.le_refl _) C I x1 _ rfl) (by omega) rfl (rest := [.ref 88]) rfl (Nat.le_of_ble_eq_true rfl) ⟨Nat.le_of_ble_eq_true rfl, Nat.le_of_ble_eq_true rfl⟩ ?_
        show _ → kW G X m_Model_tells C I 0 0 126 [.ref 88, .int x1, .int x2, .null] [.int (M_Model_above x1), .ref 88]
        refine kx_go 1 (pc' := 127) (lv' := [.ref 88, .int x1, .int x2, .null]) (st' := [.int x2, .int (M_Model_above x1), .ref 88]) hX ok_Model_tells rfl ?_
        refine kx_bind (fun p17 hp17 => ?_)
        refine kx_V (r := 88) (as := [.int (M_Model_above x1), .int x2]) (by decide) hX ok_Model_tells (nx := 130) rfl l_Model_297 (by decide) rfl (fun _ => hutells (M_Model_above x1) x2 I p17 hp17) (by omega) rfl (rest := []) rfl (Nat.le_of_ble_eq_true rfl) ⟨Nat.le_of_ble_eq_true rfl, Nat.le_of_ble_eq_true rfl⟩ ?_
        show _ → kW G X m_Model_tells C p17.2 0 0 130 [.ref 88, .int x1, .int x2, .null] [.int p17.1]
        intro h; have h := Option.some.inj h; subst h
        exact kx_iret hX hE ok_Model_tells (nx := 131) rfl rfl ⟨Nat.le_of_ble_eq_true rfl, Nat.le_of_ble_eq_true rfl⟩
def U_tells : Nat → Int32 → Int32 → HI → Option (Int32 × HI)
  | 0, _, _, _ => none
  | f + 1, a, b, I => M_Model_tells (U_tells f) I a b
theorem s_U_tells {G : xG} (C : HC) : ∀ (f : Nat) (a b : Int32) (I : HI) (r : Int32 × HI), U_tells f a b I = some r → kM G (64 * f) m_Model_tells [.ref 88, .int a, .int b] C I 0 0 (some (.int r.1)) C r.2 := by
  intro f
  induction f with
  | zero => intro a b I r h; rw [U_tells] at h; cases h
  | succ f ih =>
    intro a b I r h
    rw [U_tells] at h
    exact s_Model_tells (dutells := 64 * f) (by omega) (U_tells f) C I a b ih r h
def M_Text_here (dn : Nat) (I : HI) : Option (Int32) := if (I 26 5) ≤ (I 26 6) then (some (-1 : Int32)) else (if (50 : Int32) ≤ (I 26 6) then (some (-1 : Int32)) else (grd (bnd (I 26 6) 50) (some (I 14 (I 26 6).toNatClampNeg))))
theorem s_Text_here {G : xG} {d : Nat}  (hd : 0 ≤ d) (dn : Nat) (C : HC) (I : HI)   (hdn : dn = 1000003 ∨ dn = 1000004) (r : Int32) : M_Text_here dn I = some r → kM G d m_Text_here [.ref 26] (cD C 14 dn) I 0 0 (some (.int r)) (cD C 14 dn) I := by
  unfold M_Text_here
  refine kM.of (by decide +kernel) (Nat.le_of_ble_eq_true rfl) (lv := [.ref 26]) rfl (fun X hX hE => ?_)
  refine kx_go 1 (pc' := 1) (lv' := [.ref 26]) (st' := [.ref 26]) hX ok_Text_here rfl ?_
  refine kx_geti hX ok_Text_here rfl (k := 6) (nx := 4) rfl ?_
  refine kx_go 1 (pc' := 5) (lv' := [.ref 26]) (st' := [.ref 26, .int (I 26 6)]) hX ok_Text_here rfl ?_
  refine kx_geti hX ok_Text_here rfl (k := 5) (nx := 8) rfl ?_
  refine kx_go 1 (pc' := if (I 26 5) ≤ (I 26 6) then 35 else 11) (lv' := [.ref 26]) (st' := []) hX ok_Text_here rfl ?_
  refine kx_ite (fun c1 => ?_) (fun c1 => ?_)
  · refine kx_go 1 (pc' := 36) (lv' := [.ref 26]) (st' := [.int (-1 : Int32)]) hX ok_Text_here rfl ?_
    intro h; have h := Option.some.inj h; subst h
    exact kx_iret hX hE ok_Text_here (nx := 37) rfl rfl ⟨Nat.le_of_ble_eq_true rfl, Nat.le_of_ble_eq_true rfl⟩
  · refine kx_go 1 (pc' := 12) (lv' := [.ref 26]) (st' := [.ref 26]) hX ok_Text_here rfl ?_
    refine kx_geti hX ok_Text_here rfl (k := 6) (nx := 15) rfl ?_
    refine kx_go 1 (pc' := 16) (lv' := [.ref 26]) (st' := [.ref 26, .int (I 26 6)]) hX ok_Text_here rfl ?_
    refine kx_getdt hX ok_Text_here rfl (nx := 19) rfl ?_
    show _ → kW G X m_Text_here (cD C 14 dn) I 0 0 19 [.ref 26] [.ref 14, .int (I 26 6)]
    refine kx_alen hX ok_Text_here (w := 50) (nx := 20) rfl (y := (50 : Int32)) rfl ?_
    refine kx_go 1 (pc' := if (50 : Int32) ≤ (I 26 6) then 35 else 23) (lv' := [.ref 26]) (st' := []) hX ok_Text_here rfl ?_
    refine kx_ite (fun c2 => ?_) (fun c2 => ?_)
    · refine kx_go 1 (pc' := 36) (lv' := [.ref 26]) (st' := [.int (-1 : Int32)]) hX ok_Text_here rfl ?_
      intro h; have h := Option.some.inj h; subst h
      exact kx_iret hX hE ok_Text_here (nx := 37) rfl rfl ⟨Nat.le_of_ble_eq_true rfl, Nat.le_of_ble_eq_true rfl⟩
    · refine kx_go 1 (pc' := 24) (lv' := [.ref 26]) (st' := [.ref 26]) hX ok_Text_here rfl ?_
      refine kx_getdt hX ok_Text_here rfl (nx := 27) rfl ?_
      show _ → kW G X m_Text_here (cD C 14 dn) I 0 0 27 [.ref 26] [.ref 14]
      refine kx_go 1 (pc' := 28) (lv' := [.ref 26]) (st' := [.ref 26, .ref 14]) hX ok_Text_here rfl ?_
      refine kx_geti hX ok_Text_here rfl (k := 6) (nx := 31) rfl ?_
      refine kx_iald hX ok_Text_here (w := 50) (nx := 32) rfl (fun b3 => ?_)
      refine kx_go 1 (pc' := 36) (lv' := [.ref 26]) (st' := [.int (I 14 (I 26 6).toNatClampNeg)]) hX ok_Text_here rfl ?_
      intro h; have h := Option.some.inj h; subst h
      exact kx_iret hX hE ok_Text_here (nx := 37) rfl rfl ⟨Nat.le_of_ble_eq_true rfl, Nat.le_of_ble_eq_true rfl⟩
def M_Text_levelOf (x0 : Int32) : Int32 := if x0 = (37 : Int32) then ((4 : Int32)) else (if x0 = (38 : Int32) then ((1 : Int32)) else (if x0 = (42 : Int32) then ((4 : Int32)) else (if x0 = (43 : Int32) then ((3 : Int32)) else (if x0 = (45 : Int32) then ((3 : Int32)) else (if x0 = (47 : Int32) then ((4 : Int32)) else (if x0 = (60 : Int32) then ((2 : Int32)) else (if x0 = (61 : Int32) then ((2 : Int32)) else (if x0 = (62 : Int32) then ((2 : Int32)) else (if x0 = (124 : Int32) then ((0 : Int32)) else ((-1 : Int32)))))))))))
theorem s_Text_levelOf {G : xG} {d : Nat} (hd : 0 ≤ d) (C : HC) (I : HI) (x0 : Int32)  (r : Int32) : M_Text_levelOf x0 = r → kM G d m_Text_levelOf [.int x0] C I 0 0 (some (.int r)) C I := by
  unfold M_Text_levelOf
  refine kM.of (by decide +kernel) (Nat.le_of_ble_eq_true rfl) (lv := [.int x0]) rfl (fun X hX hE => ?_)
  refine kx_go 2 (pc' := xtsw x0 [((37 : Int32), 100), ((38 : Int32), 94), ((42 : Int32), 100), ((43 : Int32), 98), ((45 : Int32), 98), ((47 : Int32), 100), ((60 : Int32), 96), ((61 : Int32), 96), ((62 : Int32), 96), ((124 : Int32), 92)] 102) (lv' := [.int x0]) (st' := []) hX ok_Text_levelOf rfl ?_
  refine kx_sw (fun c1 => ?_) (fun c1 => ?_)
  · refine kx_go 1 (pc' := 101) (lv' := [.int x0]) (st' := [.int (4 : Int32)]) hX ok_Text_levelOf rfl ?_
    rintro rfl
    exact kx_iret hX hE ok_Text_levelOf (nx := 102) rfl rfl ⟨Nat.le_of_ble_eq_true rfl, Nat.le_of_ble_eq_true rfl⟩
  · refine kx_sw (fun c2 => ?_) (fun c2 => ?_)
    · refine kx_go 1 (pc' := 95) (lv' := [.int x0]) (st' := [.int (1 : Int32)]) hX ok_Text_levelOf rfl ?_
      rintro rfl
      exact kx_iret hX hE ok_Text_levelOf (nx := 96) rfl rfl ⟨Nat.le_of_ble_eq_true rfl, Nat.le_of_ble_eq_true rfl⟩
    · refine kx_sw (fun c3 => ?_) (fun c3 => ?_)
      · refine kx_go 1 (pc' := 101) (lv' := [.int x0]) (st' := [.int (4 : Int32)]) hX ok_Text_levelOf rfl ?_
        rintro rfl
        exact kx_iret hX hE ok_Text_levelOf (nx := 102) rfl rfl ⟨Nat.le_of_ble_eq_true rfl, Nat.le_of_ble_eq_true rfl⟩
      · refine kx_sw (fun c4 => ?_) (fun c4 => ?_)
        · refine kx_go 1 (pc' := 99) (lv' := [.int x0]) (st' := [.int (3 : Int32)]) hX ok_Text_levelOf rfl ?_
          rintro rfl
          exact kx_iret hX hE ok_Text_levelOf (nx := 100) rfl rfl ⟨Nat.le_of_ble_eq_true rfl, Nat.le_of_ble_eq_true rfl⟩
        · refine kx_sw (fun c5 => ?_) (fun c5 => ?_)
          · refine kx_go 1 (pc' := 99) (lv' := [.int x0]) (st' := [.int (3 : Int32)]) hX ok_Text_levelOf rfl ?_
            rintro rfl
            exact kx_iret hX hE ok_Text_levelOf (nx := 100) rfl rfl ⟨Nat.le_of_ble_eq_true rfl, Nat.le_of_ble_eq_true rfl⟩
          · refine kx_sw (fun c6 => ?_) (fun c6 => ?_)
            · refine kx_go 1 (pc' := 101) (lv' := [.int x0]) (st' := [.int (4 : Int32)]) hX ok_Text_levelOf rfl ?_
              rintro rfl
              exact kx_iret hX hE ok_Text_levelOf (nx := 102) rfl rfl ⟨Nat.le_of_ble_eq_true rfl, Nat.le_of_ble_eq_true rfl⟩
            · refine kx_sw (fun c7 => ?_) (fun c7 => ?_)
              · refine kx_go 1 (pc' := 97) (lv' := [.int x0]) (st' := [.int (2 : Int32)]) hX ok_Text_levelOf rfl ?_
                rintro rfl
                exact kx_iret hX hE ok_Text_levelOf (nx := 98) rfl rfl ⟨Nat.le_of_ble_eq_true rfl, Nat.le_of_ble_eq_true rfl⟩
              · refine kx_sw (fun c8 => ?_) (fun c8 => ?_)
                · refine kx_go 1 (pc' := 97) (lv' := [.int x0]) (st' := [.int (2 : Int32)]) hX ok_Text_levelOf rfl ?_
                  rintro rfl
                  exact kx_iret hX hE ok_Text_levelOf (nx := 98) rfl rfl ⟨Nat.le_of_ble_eq_true rfl, Nat.le_of_ble_eq_true rfl⟩
                · refine kx_sw (fun c9 => ?_) (fun c9 => ?_)
                  · refine kx_go 1 (pc' := 97) (lv' := [.int x0]) (st' := [.int (2 : Int32)]) hX ok_Text_levelOf rfl ?_
                    rintro rfl
                    exact kx_iret hX hE ok_Text_levelOf (nx := 98) rfl rfl ⟨Nat.le_of_ble_eq_true rfl, Nat.le_of_ble_eq_true rfl⟩
                  · refine kx_sw (fun c10 => ?_) (fun c10 => ?_)
                    · refine kx_go 1 (pc' := 93) (lv' := [.int x0]) (st' := [.int (0 : Int32)]) hX ok_Text_levelOf rfl ?_
                      rintro rfl
                      exact kx_iret hX hE ok_Text_levelOf (nx := 94) rfl rfl ⟨Nat.le_of_ble_eq_true rfl, Nat.le_of_ble_eq_true rfl⟩
                    · refine kx_sw0 ?_
                      refine kx_go 1 (pc' := 103) (lv' := [.int x0]) (st' := [.int (-1 : Int32)]) hX ok_Text_levelOf rfl ?_
                      rintro rfl
                      exact kx_iret hX hE ok_Text_levelOf (nx := 104) rfl rfl ⟨Nat.le_of_ble_eq_true rfl, Nat.le_of_ble_eq_true rfl⟩
def M_Text_addStep (I : HI) (x1 : Int32) (x2 : Int32) : Option (HI) := if (50 : Int32) ≤ (I 26 2) then (some I) else (grd (bnd (I 26 2) 50) (lt (xu I 27 (I 26 2).toNatClampNeg x1) fun J3 => grd (bnd (J3 26 2) 50) (lt (xu J3 28 (J3 26 2).toNatClampNeg x2) fun J5 => lt (xu J5 26 2 ((J5 26 2) + (1 : Int32))) fun J6 => some J6)))
theorem s_Text_addStep {G : xG} {d : Nat} (hd : 0 ≤ d) (C : HC) (I : HI) (x1 : Int32) (x2 : Int32)  (r : HI) : M_Text_addStep I x1 x2 = some r → kM G d m_Text_addStep [.ref 26, .int x1, .int x2] C I 0 0 none C r := by
  unfold M_Text_addStep
  refine kM.of (by decide +kernel) (Nat.le_of_ble_eq_true rfl) (lv := [.ref 26, .int x1, .int x2]) rfl (fun X hX hE => ?_)
  refine kx_go 1 (pc' := 1) (lv' := [.ref 26, .int x1, .int x2]) (st' := [.ref 26]) hX ok_Text_addStep rfl ?_
  refine kx_geti hX ok_Text_addStep rfl (k := 2) (nx := 4) rfl ?_
  refine kx_go 1 (pc' := 5) (lv' := [.ref 26, .int x1, .int x2]) (st' := [.ref 26, .int (I 26 2)]) hX ok_Text_addStep rfl ?_
  refine kx_getd hX ok_Text_addStep rfl (q := 27) (nx := 8) rfl ?_
  refine kx_alen hX ok_Text_addStep (w := 50) (nx := 9) rfl (y := (50 : Int32)) rfl ?_
  refine kx_go 1 (pc' := if (50 : Int32) ≤ (I 26 2) then 42 else 12) (lv' := [.ref 26, .int x1, .int x2]) (st' := []) hX ok_Text_addStep rfl ?_
  refine kx_ite (fun c1 => ?_) (fun c1 => ?_)
  · intro h; have h := Option.some.inj h; subst h
    exact kx_vret hX hE ok_Text_addStep (nx := 43) rfl rfl ⟨Nat.le_of_ble_eq_true rfl, Nat.le_of_ble_eq_true rfl⟩
  · refine kx_go 1 (pc' := 13) (lv' := [.ref 26, .int x1, .int x2]) (st' := [.ref 26]) hX ok_Text_addStep rfl ?_
    refine kx_getd hX ok_Text_addStep rfl (q := 27) (nx := 16) rfl ?_
    refine kx_go 1 (pc' := 17) (lv' := [.ref 26, .int x1, .int x2]) (st' := [.ref 26, .ref 27]) hX ok_Text_addStep rfl ?_
    refine kx_geti hX ok_Text_addStep rfl (k := 2) (nx := 20) rfl ?_
    refine kx_go 1 (pc' := 21) (lv' := [.ref 26, .int x1, .int x2]) (st' := [.int x1, .int (I 26 2), .ref 27]) hX ok_Text_addStep rfl ?_
    refine kx_iast hX ok_Text_addStep (w := 50) (nx := 22) rfl (fun b2 => ?_)
    refine kx_lt (Q := fun J3 => kW G X m_Text_addStep C J3 0 0 22 [.ref 26, .int x1, .int x2] []) (fun J3 eJ3 => ?_)
    refine kx_go 1 (pc' := 23) (lv' := [.ref 26, .int x1, .int x2]) (st' := [.ref 26]) hX ok_Text_addStep rfl ?_
    refine kx_getd hX ok_Text_addStep rfl (q := 28) (nx := 26) rfl ?_
    refine kx_go 1 (pc' := 27) (lv' := [.ref 26, .int x1, .int x2]) (st' := [.ref 26, .ref 28]) hX ok_Text_addStep rfl ?_
    refine kx_geti hX ok_Text_addStep rfl (k := 2) (nx := 30) rfl ?_
    refine kx_go 1 (pc' := 31) (lv' := [.ref 26, .int x1, .int x2]) (st' := [.int x2, .int (J3 26 2), .ref 28]) hX ok_Text_addStep rfl ?_
    refine kx_iast hX ok_Text_addStep (w := 50) (nx := 32) rfl (fun b4 => ?_)
    refine kx_lt (Q := fun J5 => kW G X m_Text_addStep C J5 0 0 32 [.ref 26, .int x1, .int x2] []) (fun J5 eJ5 => ?_)
    refine kx_go 2 (pc' := 34) (lv' := [.ref 26, .int x1, .int x2]) (st' := [.ref 26, .ref 26]) hX ok_Text_addStep rfl ?_
    refine kx_geti hX ok_Text_addStep rfl (k := 2) (nx := 37) rfl ?_
    refine kx_go 2 (pc' := 39) (lv' := [.ref 26, .int x1, .int x2]) (st' := [.int ((J5 26 2) + (1 : Int32)), .ref 26]) hX ok_Text_addStep rfl ?_
    refine kx_puti hX ok_Text_addStep rfl (k := 2) (nx := 42) rfl rfl ?_
    refine kx_lt (Q := fun J6 => kW G X m_Text_addStep C J6 0 0 42 [.ref 26, .int x1, .int x2] []) (fun J6 eJ6 => ?_)
    intro h; have h := Option.some.inj h; subst h
    exact kx_vret hX hE ok_Text_addStep (nx := 43) rfl rfl ⟨Nat.le_of_ble_eq_true rfl, Nat.le_of_ble_eq_true rfl⟩
def L_Text_readLevel_26 (dn : Nat) (rl : Int32 → Int32 → HI → Option (Int32 × HI)) (rf : Int32 → HI → Option (Int32 × HI)) (x1 : Int32) (x2 : Int32) : Nat → Int32 → HI → Option (Nat × HI)
  | 0, _, _ => none
  | f + 1, x3, I => if (50 : Int32) ≤ x3 then (some (2, I)) else (Option.bind (M_Text_here dn I) fun p2 => if (M_Text_levelOf p2) = x1 then (Option.bind (M_Text_here dn I) fun p4 => lt (xu I 26 6 ((I 26 6) + (1 : Int32))) fun J5 => Option.bind (rl (x1 + (1 : Int32)) x2 J5) fun p6 => if p6.1 = (0 : Int32) then (some (0, p6.2)) else (Option.bind (M_Text_addStep p6.2 p4 (0 : Int32)) fun p8 => if x1 = (2 : Int32) then (some (1, p8)) else (L_Text_readLevel_26 dn rl rf x1 x2 f (x3 + (1 : Int32)) p8))) else (some (2, I)))
theorem s_L_Text_readLevel_26 {G : xG} {X : xC} {d : Nat} {du : Nat} (hd : du + 1 ≤ d) (hX : xAmb G X m_Text_readLevel d 0 0) (dn : Nat) (rl : Int32 → Int32 → HI → Option (Int32 × HI)) (rf : Int32 → HI → Option (Int32 × HI)) (C : HC) (x1 : Int32) (x2 : Int32) (hdn : dn = 1000003 ∨ dn = 1000004) (hrl : ∀ (a0 : Int32) (a1 : Int32) (I : HI) (r : Int32 × HI), rl a0 a1 I = some r → kM G du m_Text_readLevel [.ref 26, .int a0, .int a1] (cD C 14 dn) I 0 0 (some (.int r.1)) (cD C 14 dn) r.2) (hrf : ∀ (a0 : Int32) (I : HI) (r : Int32 × HI), rf a0 I = some r → kM G du m_Text_readLeaf [.ref 26, .int a0] (cD C 14 dn) I 0 0 (some (.int r.1)) (cD C 14 dn) r.2) : ∀ (f : Nat) (x3 : Int32) (I : HI) (r : Nat × HI), (r.1 = 0 → kW G X m_Text_readLevel (cD C 14 dn) r.2 0 0 70 [.null, .null, .null, .null, .null] []) → (¬ r.1 = 0 → r.1 = 1 → kW G X m_Text_readLevel (cD C 14 dn) r.2 0 0 84 [.null, .null, .null, .null, .null] []) → (¬ r.1 = 0 → ¬ r.1 = 1 → kW G X m_Text_readLevel (cD C 14 dn) r.2 0 0 92 [.null, .null, .null, .null, .null] []) → L_Text_readLevel_26 dn rl rf x1 x2 f x3 I = some r → kW G X m_Text_readLevel (cD C 14 dn) I 0 0 26 [.ref 26, .int x1, .int x2, .int x3, .null] [] := by
  intro f
  induction f with
  | zero => intro x3 I r hk0 hk1 hk2 h; rw [L_Text_readLevel_26] at h; cases h
  | succ f ih =>
    intro x3 I r hk0 hk1 hk2
    rw [L_Text_readLevel_26]
    refine kx_go 3 (pc' := if (50 : Int32) ≤ x3 then 92 else 32) (lv' := [.ref 26, .int x1, .int x2, .int x3, .null]) (st' := []) hX ok_Text_readLevel rfl ?_
    refine kx_ite (fun c1 => ?_) (fun c1 => ?_)
    · refine kx_weak (lv' := [.null, .null, .null, .null, .null]) (by simp [xsub]) ?_
      intro h; have h := Option.some.inj h; subst h
      exact hk2 (show ¬ (2 : Nat) = 0 by decide) (show ¬ (2 : Nat) = 1 by decide)
    · refine kx_go 1 (pc' := 33) (lv' := [.ref 26, .int x1, .int x2, .int x3, .null]) (st' := [.ref 26]) hX ok_Text_readLevel rfl ?_
      refine kx_bind (fun p2 hp2 => ?_)
      refine kx_V (r := 26) (as := []) (by decide) hX ok_Text_readLevel (nx := 36) rfl l_Text_48 (by decide) rfl (fun _ => s_Text_here (G := G) (d := 0) (Nat.le_refl _) dn C I  hdn p2 hp2) (by omega) rfl (rest := []) rfl (Nat.le_of_ble_eq_true rfl) ⟨Nat.le_of_ble_eq_true rfl, Nat.le_of_ble_eq_true rfl⟩ ?_
      show _ → kW G X m_Text_readLevel (cD C 14 dn) I 0 0 36 [.ref 26, .int x1, .int x2, .int x3, .null] [.int p2]
      refine kx_S (as := [.int p2]) hX ok_Text_readLevel (nx := 39) rfl l_Text_52 (fun _ => s_Text_levelOf (G := G) (d := 0) (Nat.le_refl _) (cD C 14 dn) I p2 _ rfl) (by omega) rfl (rest := []) rfl (Nat.le_of_ble_eq_true rfl) ⟨Nat.le_of_ble_eq_true rfl, Nat.le_of_ble_eq_true rfl⟩ ?_
      show _ → kW G X m_Text_readLevel (cD C 14 dn) I 0 0 39 [.ref 26, .int x1, .int x2, .int x3, .null] [.int (M_Text_levelOf p2)]
      refine kx_go 2 (pc' := if (M_Text_levelOf p2) = x1 then 43 else 92) (lv' := [.ref 26, .int x1, .int x2, .int x3, .null]) (st' := []) hX ok_Text_readLevel rfl ?_
      refine kx_ite (fun c3 => ?_) (fun c3 => ?_)
      · refine kx_go 1 (pc' := 44) (lv' := [.ref 26, .int x1, .int x2, .int x3, .null]) (st' := [.ref 26]) hX ok_Text_readLevel rfl ?_
        refine kx_bind (fun p4 hp4 => ?_)
        refine kx_V (r := 26) (as := []) (by decide) hX ok_Text_readLevel (nx := 47) rfl l_Text_48 (by decide) rfl (fun _ => s_Text_here (G := G) (d := 0) (Nat.le_refl _) dn C I  hdn p4 hp4) (by omega) rfl (rest := []) rfl (Nat.le_of_ble_eq_true rfl) ⟨Nat.le_of_ble_eq_true rfl, Nat.le_of_ble_eq_true rfl⟩ ?_
        show _ → kW G X m_Text_readLevel (cD C 14 dn) I 0 0 47 [.ref 26, .int x1, .int x2, .int x3, .null] [.int p4]
        refine kx_go 3 (pc' := 51) (lv' := [.ref 26, .int x1, .int x2, .int x3, .int p4]) (st' := [.ref 26, .ref 26]) hX ok_Text_readLevel rfl ?_
        refine kx_geti hX ok_Text_readLevel rfl (k := 6) (nx := 54) rfl ?_
        refine kx_go 2 (pc' := 56) (lv' := [.ref 26, .int x1, .int x2, .int x3, .int p4]) (st' := [.int ((I 26 6) + (1 : Int32)), .ref 26]) hX ok_Text_readLevel rfl ?_
        refine kx_puti hX ok_Text_readLevel rfl (k := 6) (nx := 59) rfl rfl ?_
        refine kx_lt (Q := fun J5 => kW G X m_Text_readLevel (cD C 14 dn) J5 0 0 59 [.ref 26, .int x1, .int x2, .int x3, .int p4] []) (fun J5 eJ5 => ?_)
        refine kx_go 5 (pc' := 64) (lv' := [.ref 26, .int x1, .int x2, .int x3, .int p4]) (st' := [.int x2, .int (x1 + (1 : Int32)), .ref 26]) hX ok_Text_readLevel rfl ?_
        refine kx_bind (fun p6 hp6 => ?_)
        refine kx_V (r := 26) (as := [.int (x1 + (1 : Int32)), .int x2]) (by decide) hX ok_Text_readLevel (nx := 67) rfl l_Text_40 (by decide) rfl (fun _ => hrl (x1 + (1 : Int32)) x2 J5 p6 hp6) (by omega) rfl (rest := []) rfl (Nat.le_of_ble_eq_true rfl) ⟨Nat.le_of_ble_eq_true rfl, Nat.le_of_ble_eq_true rfl⟩ ?_
        show _ → kW G X m_Text_readLevel (cD C 14 dn) p6.2 0 0 67 [.ref 26, .int x1, .int x2, .int x3, .int p4] [.int p6.1]
        refine kx_go 1 (pc' := if p6.1 = (0 : Int32) then 70 else 72) (lv' := [.ref 26, .int x1, .int x2, .int x3, .int p4]) (st' := []) hX ok_Text_readLevel rfl ?_
        refine kx_ite (fun c7 => ?_) (fun c7 => ?_)
        · refine kx_weak (lv' := [.null, .null, .null, .null, .null]) (by simp [xsub]) ?_
          intro h; have h := Option.some.inj h; subst h
          exact hk0 rfl
        · refine kx_go 3 (pc' := 76) (lv' := [.ref 26, .int x1, .int x2, .int x3, .int p4]) (st' := [.int (0 : Int32), .int p4, .ref 26]) hX ok_Text_readLevel rfl ?_
          refine kx_bind (fun p8 hp8 => ?_)
          refine kx_V (r := 26) (as := [.int p4, .int (0 : Int32)]) (by decide) hX ok_Text_readLevel (nx := 79) rfl l_Text_56 (by decide) rfl (fun _ => s_Text_addStep (G := G) (d := 0) (Nat.le_refl _) (cD C 14 dn) p6.2 p4 (0 : Int32) p8 hp8) (by omega) rfl (rest := []) rfl (Nat.le_of_ble_eq_true rfl) ⟨Nat.le_of_ble_eq_true rfl, Nat.le_of_ble_eq_true rfl⟩ ?_
          show _ → kW G X m_Text_readLevel (cD C 14 dn) p8 0 0 79 [.ref 26, .int x1, .int x2, .int x3, .int p4] []
          refine kx_go 3 (pc' := if x1 = (2 : Int32) then 84 else 86) (lv' := [.ref 26, .int x1, .int x2, .int x3, .int p4]) (st' := []) hX ok_Text_readLevel rfl ?_
          refine kx_ite (fun c9 => ?_) (fun c9 => ?_)
          · refine kx_weak (lv' := [.null, .null, .null, .null, .null]) (by simp [xsub]) ?_
            intro h; have h := Option.some.inj h; subst h
            exact hk1 (show ¬ (1 : Nat) = 0 by decide) rfl
          · refine kx_go 2 (pc' := 26) (lv' := [.ref 26, .int x1, .int x2, .int (x3 + (1 : Int32)), .int p4]) (st' := []) hX ok_Text_readLevel rfl ?_
            refine kx_weak (lv' := [.ref 26, .int x1, .int x2, .int (x3 + (1 : Int32)), .null]) (by simp [xsub]) ?_
            exact fun h => ih (x3 + (1 : Int32)) p8 r hk0 hk1 hk2 h
      · refine kx_weak (lv' := [.null, .null, .null, .null, .null]) (by simp [xsub]) ?_
        intro h; have h := Option.some.inj h; subst h
        exact hk2 (show ¬ (2 : Nat) = 0 by decide) (show ¬ (2 : Nat) = 1 by decide)
def M_Text_readLevel (dn : Nat) (rl : Int32 → Int32 → HI → Option (Int32 × HI)) (rf : Int32 → HI → Option (Int32 × HI)) (I : HI) (x1 : Int32) (x2 : Int32) : Option (Int32 × HI) := if x1 < (5 : Int32) then (Option.bind (rl (x1 + (1 : Int32)) x2 I) fun p2 => if p2.1 = (0 : Int32) then (some ((0 : Int32), p2.2)) else (Option.bind (L_Text_readLevel_26 dn rl rf x1 x2 1000 (0 : Int32) p2.2) fun p4 => if p4.1 = 0 then (some ((0 : Int32), p4.2)) else (if p4.1 = 1 then (some ((1 : Int32), p4.2)) else (some ((1 : Int32), p4.2))))) else (Option.bind (rf x2 I) fun p5 => grd (b01 p5.1) (some (p5.1, p5.2)))
theorem s_Text_readLevel {G : xG} {d : Nat} {du : Nat} (hd : du + 1 ≤ d) (dn : Nat) (rl : Int32 → Int32 → HI → Option (Int32 × HI)) (rf : Int32 → HI → Option (Int32 × HI)) (C : HC) (I : HI) (x1 : Int32) (x2 : Int32)  (hdn : dn = 1000003 ∨ dn = 1000004) (hrl : ∀ (a0 : Int32) (a1 : Int32) (I : HI) (r : Int32 × HI), rl a0 a1 I = some r → kM G du m_Text_readLevel [.ref 26, .int a0, .int a1] (cD C 14 dn) I 0 0 (some (.int r.1)) (cD C 14 dn) r.2) (hrf : ∀ (a0 : Int32) (I : HI) (r : Int32 × HI), rf a0 I = some r → kM G du m_Text_readLeaf [.ref 26, .int a0] (cD C 14 dn) I 0 0 (some (.int r.1)) (cD C 14 dn) r.2) (r : Int32 × HI) : M_Text_readLevel dn rl rf I x1 x2 = some r → kM G d m_Text_readLevel [.ref 26, .int x1, .int x2] (cD C 14 dn) I 0 0 (some (.int r.1)) (cD C 14 dn) r.2 := by
  unfold M_Text_readLevel
  refine kM.of (by decide +kernel) (Nat.le_of_ble_eq_true rfl) (lv := [.ref 26, .int x1, .int x2, .null, .null]) rfl (fun X hX hE => ?_)
  refine kx_go 3 (pc' := if x1 < (5 : Int32) then 11 else 5) (lv' := [.ref 26, .int x1, .int x2, .null, .null]) (st' := []) hX ok_Text_readLevel rfl ?_
  refine kx_ite (fun c1 => ?_) (fun c1 => ?_)
  · refine kx_go 5 (pc' := 16) (lv' := [.ref 26, .int x1, .int x2, .null, .null]) (st' := [.int x2, .int (x1 + (1 : Int32)), .ref 26]) hX ok_Text_readLevel rfl ?_
    refine kx_bind (fun p2 hp2 => ?_)
    refine kx_V (r := 26) (as := [.int (x1 + (1 : Int32)), .int x2]) (by decide) hX ok_Text_readLevel (nx := 19) rfl l_Text_40 (by decide) rfl (fun _ => hrl (x1 + (1 : Int32)) x2 I p2 hp2) (by omega) rfl (rest := []) rfl (Nat.le_of_ble_eq_true rfl) ⟨Nat.le_of_ble_eq_true rfl, Nat.le_of_ble_eq_true rfl⟩ ?_
    show _ → kW G X m_Text_readLevel (cD C 14 dn) p2.2 0 0 19 [.ref 26, .int x1, .int x2, .null, .null] [.int p2.1]
    refine kx_go 1 (pc' := if p2.1 = (0 : Int32) then 22 else 24) (lv' := [.ref 26, .int x1, .int x2, .null, .null]) (st' := []) hX ok_Text_readLevel rfl ?_
    refine kx_ite (fun c3 => ?_) (fun c3 => ?_)
    · refine kx_go 1 (pc' := 23) (lv' := [.ref 26, .int x1, .int x2, .null, .null]) (st' := [.int (0 : Int32)]) hX ok_Text_readLevel rfl ?_
      intro h; have h := Option.some.inj h; subst h
      exact kx_zret hX hE ok_Text_readLevel (nx := 24) rfl rfl (Or.inl rfl) ⟨Nat.le_of_ble_eq_true rfl, Nat.le_of_ble_eq_true rfl⟩
    · refine kx_go 2 (pc' := 26) (lv' := [.ref 26, .int x1, .int x2, .int (0 : Int32), .null]) (st' := []) hX ok_Text_readLevel rfl ?_
      refine kx_bind (fun p4 hp4 => ?_)
      refine kx_via3 (fun hk0 hk1 hk2 => s_L_Text_readLevel_26 (G := G) (X := X) (by omega) hX dn rl rf C x1 x2 hdn hrl hrf 1000 (0 : Int32) p2.2 p4 hk0 hk1 hk2 hp4) (fun _ => ?_) (fun _ _ => ?_) (fun _ _ => ?_)
      · refine kx_go 1 (pc' := 71) (lv' := [.null, .null, .null, .null, .null]) (st' := [.int (0 : Int32)]) hX ok_Text_readLevel rfl ?_
        intro h; have h := Option.some.inj h; subst h
        exact kx_zret hX hE ok_Text_readLevel (nx := 72) rfl rfl (Or.inl rfl) ⟨Nat.le_of_ble_eq_true rfl, Nat.le_of_ble_eq_true rfl⟩
      · refine kx_go 1 (pc' := 85) (lv' := [.null, .null, .null, .null, .null]) (st' := [.int (1 : Int32)]) hX ok_Text_readLevel rfl ?_
        intro h; have h := Option.some.inj h; subst h
        exact kx_zret hX hE ok_Text_readLevel (nx := 86) rfl rfl (Or.inr rfl) ⟨Nat.le_of_ble_eq_true rfl, Nat.le_of_ble_eq_true rfl⟩
      · refine kx_go 1 (pc' := 93) (lv' := [.null, .null, .null, .null, .null]) (st' := [.int (1 : Int32)]) hX ok_Text_readLevel rfl ?_
        intro h; have h := Option.some.inj h; subst h
        exact kx_zret hX hE ok_Text_readLevel (nx := 94) rfl rfl (Or.inr rfl) ⟨Nat.le_of_ble_eq_true rfl, Nat.le_of_ble_eq_true rfl⟩
  · refine kx_go 2 (pc' := 7) (lv' := [.ref 26, .int x1, .int x2, .null, .null]) (st' := [.int x2, .ref 26]) hX ok_Text_readLevel rfl ?_
    refine kx_bind (fun p5 hp5 => ?_)
    refine kx_V (r := 26) (as := [.int x2]) (by decide) hX ok_Text_readLevel (nx := 10) rfl l_Text_44 (by decide) rfl (fun _ => hrf x2 I p5 hp5) (by omega) rfl (rest := []) rfl (Nat.le_of_ble_eq_true rfl) ⟨Nat.le_of_ble_eq_true rfl, Nat.le_of_ble_eq_true rfl⟩ ?_
    show _ → kW G X m_Text_readLevel (cD C 14 dn) p5.2 0 0 10 [.ref 26, .int x1, .int x2, .null, .null] [.int p5.1]
    refine kx_grd (fun h6 => ?_)
    intro h; have h := Option.some.inj h; subst h
    exact kx_zret hX hE ok_Text_readLevel (nx := 11) rfl rfl (b01_or h6) ⟨Nat.le_of_ble_eq_true rfl, Nat.le_of_ble_eq_true rfl⟩
def M_Text_isDigit (x0 : Int32) : Int32 := if x0 < (48 : Int32) then ((0 : Int32)) else (if (57 : Int32) < x0 then ((0 : Int32)) else ((1 : Int32)))
theorem s_Text_isDigit {G : xG} {d : Nat} (hd : 0 ≤ d) (C : HC) (I : HI) (x0 : Int32)  (r : Int32) : M_Text_isDigit x0 = r → kM G d m_Text_isDigit [.int x0] C I 0 0 (some (.int r)) C I := by
  unfold M_Text_isDigit
  refine kM.of (by decide +kernel) (Nat.le_of_ble_eq_true rfl) (lv := [.int x0]) rfl (fun X hX hE => ?_)
  refine kx_go 3 (pc' := if x0 < (48 : Int32) then 16 else 6) (lv' := [.int x0]) (st' := []) hX ok_Text_isDigit rfl ?_
  refine kx_ite (fun c1 => ?_) (fun c1 => ?_)
  · refine kx_go 1 (pc' := 17) (lv' := [.int x0]) (st' := [.int (0 : Int32)]) hX ok_Text_isDigit rfl ?_
    rintro rfl
    exact kx_zret hX hE ok_Text_isDigit (nx := 18) rfl rfl (Or.inl rfl) ⟨Nat.le_of_ble_eq_true rfl, Nat.le_of_ble_eq_true rfl⟩
  · refine kx_go 3 (pc' := if (57 : Int32) < x0 then 16 else 12) (lv' := [.int x0]) (st' := []) hX ok_Text_isDigit rfl ?_
    refine kx_ite (fun c2 => ?_) (fun c2 => ?_)
    · refine kx_go 1 (pc' := 17) (lv' := [.int x0]) (st' := [.int (0 : Int32)]) hX ok_Text_isDigit rfl ?_
      rintro rfl
      exact kx_zret hX hE ok_Text_isDigit (nx := 18) rfl rfl (Or.inl rfl) ⟨Nat.le_of_ble_eq_true rfl, Nat.le_of_ble_eq_true rfl⟩
    · refine kx_go 2 (pc' := 17) (lv' := [.int x0]) (st' := [.int (1 : Int32)]) hX ok_Text_isDigit rfl ?_
      rintro rfl
      exact kx_zret hX hE ok_Text_isDigit (nx := 18) rfl rfl (Or.inr rfl) ⟨Nat.le_of_ble_eq_true rfl, Nat.le_of_ble_eq_true rfl⟩
def M_Text_readNot (dn : Nat) (rl : Int32 → Int32 → HI → Option (Int32 × HI)) (rf : Int32 → HI → Option (Int32 × HI)) (I : HI) (x1 : Int32) : Option (Int32 × HI) := Option.bind (rf x1 I) fun p1 => if p1.1 = (0 : Int32) then (some ((0 : Int32), p1.2)) else (Option.bind (M_Text_addStep p1.2 (33 : Int32) (0 : Int32)) fun p3 => some ((1 : Int32), p3))
theorem s_Text_readNot {G : xG} {d : Nat} {du : Nat} (hd : du + 1 ≤ d) (dn : Nat) (rl : Int32 → Int32 → HI → Option (Int32 × HI)) (rf : Int32 → HI → Option (Int32 × HI)) (C : HC) (I : HI) (x1 : Int32)  (hdn : dn = 1000003 ∨ dn = 1000004) (hrl : ∀ (a0 : Int32) (a1 : Int32) (I : HI) (r : Int32 × HI), rl a0 a1 I = some r → kM G du m_Text_readLevel [.ref 26, .int a0, .int a1] (cD C 14 dn) I 0 0 (some (.int r.1)) (cD C 14 dn) r.2) (hrf : ∀ (a0 : Int32) (I : HI) (r : Int32 × HI), rf a0 I = some r → kM G du m_Text_readLeaf [.ref 26, .int a0] (cD C 14 dn) I 0 0 (some (.int r.1)) (cD C 14 dn) r.2) (r : Int32 × HI) : M_Text_readNot dn rl rf I x1 = some r → kM G d m_Text_readNot [.ref 26, .int x1] (cD C 14 dn) I 0 0 (some (.int r.1)) (cD C 14 dn) r.2 := by
  unfold M_Text_readNot
  refine kM.of (by decide +kernel) (Nat.le_of_ble_eq_true rfl) (lv := [.ref 26, .int x1]) rfl (fun X hX hE => ?_)
  refine kx_go 2 (pc' := 2) (lv' := [.ref 26, .int x1]) (st' := [.int x1, .ref 26]) hX ok_Text_readNot rfl ?_
  refine kx_bind (fun p1 hp1 => ?_)
  refine kx_V (r := 26) (as := [.int x1]) (by decide) hX ok_Text_readNot (nx := 5) rfl l_Text_44 (by decide) rfl (fun _ => hrf x1 I p1 hp1) (by omega) rfl (rest := []) rfl (Nat.le_of_ble_eq_true rfl) ⟨Nat.le_of_ble_eq_true rfl, Nat.le_of_ble_eq_true rfl⟩ ?_
  show _ → kW G X m_Text_readNot (cD C 14 dn) p1.2 0 0 5 [.ref 26, .int x1] [.int p1.1]
  refine kx_go 1 (pc' := if p1.1 = (0 : Int32) then 8 else 10) (lv' := [.ref 26, .int x1]) (st' := []) hX ok_Text_readNot rfl ?_
  refine kx_ite (fun c2 => ?_) (fun c2 => ?_)
  · refine kx_go 1 (pc' := 9) (lv' := [.ref 26, .int x1]) (st' := [.int (0 : Int32)]) hX ok_Text_readNot rfl ?_
    intro h; have h := Option.some.inj h; subst h
    exact kx_zret hX hE ok_Text_readNot (nx := 10) rfl rfl (Or.inl rfl) ⟨Nat.le_of_ble_eq_true rfl, Nat.le_of_ble_eq_true rfl⟩
  · refine kx_go 3 (pc' := 14) (lv' := [.ref 26, .int x1]) (st' := [.int (0 : Int32), .int (33 : Int32), .ref 26]) hX ok_Text_readNot rfl ?_
    refine kx_bind (fun p3 hp3 => ?_)
    refine kx_V (r := 26) (as := [.int (33 : Int32), .int (0 : Int32)]) (by decide) hX ok_Text_readNot (nx := 17) rfl l_Text_56 (by decide) rfl (fun _ => s_Text_addStep (G := G) (d := 0) (Nat.le_refl _) (cD C 14 dn) p1.2 (33 : Int32) (0 : Int32) p3 hp3) (by omega) rfl (rest := []) rfl (Nat.le_of_ble_eq_true rfl) ⟨Nat.le_of_ble_eq_true rfl, Nat.le_of_ble_eq_true rfl⟩ ?_
    show _ → kW G X m_Text_readNot (cD C 14 dn) p3 0 0 17 [.ref 26, .int x1] []
    refine kx_go 1 (pc' := 18) (lv' := [.ref 26, .int x1]) (st' := [.int (1 : Int32)]) hX ok_Text_readNot rfl ?_
    intro h; have h := Option.some.inj h; subst h
    exact kx_zret hX hE ok_Text_readNot (nx := 19) rfl rfl (Or.inr rfl) ⟨Nat.le_of_ble_eq_true rfl, Nat.le_of_ble_eq_true rfl⟩
def M_Text_readBracket (dn : Nat) (rl : Int32 → Int32 → HI → Option (Int32 × HI)) (rf : Int32 → HI → Option (Int32 × HI)) (I : HI) (x1 : Int32) : Option (Int32 × HI) := Option.bind (rl (0 : Int32) x1 I) fun p1 => if p1.1 = (0 : Int32) then (some ((0 : Int32), p1.2)) else (Option.bind (M_Text_here dn p1.2) fun p3 => if p3 = (41 : Int32) then (lt (xu p1.2 26 6 ((p1.2 26 6) + (1 : Int32))) fun J5 => some ((1 : Int32), J5)) else (some ((0 : Int32), p1.2)))
theorem s_Text_readBracket {G : xG} {d : Nat} {du : Nat} (hd : du + 1 ≤ d) (dn : Nat) (rl : Int32 → Int32 → HI → Option (Int32 × HI)) (rf : Int32 → HI → Option (Int32 × HI)) (C : HC) (I : HI) (x1 : Int32)  (hdn : dn = 1000003 ∨ dn = 1000004) (hrl : ∀ (a0 : Int32) (a1 : Int32) (I : HI) (r : Int32 × HI), rl a0 a1 I = some r → kM G du m_Text_readLevel [.ref 26, .int a0, .int a1] (cD C 14 dn) I 0 0 (some (.int r.1)) (cD C 14 dn) r.2) (hrf : ∀ (a0 : Int32) (I : HI) (r : Int32 × HI), rf a0 I = some r → kM G du m_Text_readLeaf [.ref 26, .int a0] (cD C 14 dn) I 0 0 (some (.int r.1)) (cD C 14 dn) r.2) (r : Int32 × HI) : M_Text_readBracket dn rl rf I x1 = some r → kM G d m_Text_readBracket [.ref 26, .int x1] (cD C 14 dn) I 0 0 (some (.int r.1)) (cD C 14 dn) r.2 := by
  unfold M_Text_readBracket
  refine kM.of (by decide +kernel) (Nat.le_of_ble_eq_true rfl) (lv := [.ref 26, .int x1]) rfl (fun X hX hE => ?_)
  refine kx_go 3 (pc' := 3) (lv' := [.ref 26, .int x1]) (st' := [.int x1, .int (0 : Int32), .ref 26]) hX ok_Text_readBracket rfl ?_
  refine kx_bind (fun p1 hp1 => ?_)
  refine kx_V (r := 26) (as := [.int (0 : Int32), .int x1]) (by decide) hX ok_Text_readBracket (nx := 6) rfl l_Text_40 (by decide) rfl (fun _ => hrl (0 : Int32) x1 I p1 hp1) (by omega) rfl (rest := []) rfl (Nat.le_of_ble_eq_true rfl) ⟨Nat.le_of_ble_eq_true rfl, Nat.le_of_ble_eq_true rfl⟩ ?_
  show _ → kW G X m_Text_readBracket (cD C 14 dn) p1.2 0 0 6 [.ref 26, .int x1] [.int p1.1]
  refine kx_go 1 (pc' := if p1.1 = (0 : Int32) then 18 else 9) (lv' := [.ref 26, .int x1]) (st' := []) hX ok_Text_readBracket rfl ?_
  refine kx_ite (fun c2 => ?_) (fun c2 => ?_)
  · refine kx_go 1 (pc' := 19) (lv' := [.ref 26, .int x1]) (st' := [.int (0 : Int32)]) hX ok_Text_readBracket rfl ?_
    intro h; have h := Option.some.inj h; subst h
    exact kx_zret hX hE ok_Text_readBracket (nx := 20) rfl rfl (Or.inl rfl) ⟨Nat.le_of_ble_eq_true rfl, Nat.le_of_ble_eq_true rfl⟩
  · refine kx_go 1 (pc' := 10) (lv' := [.ref 26, .int x1]) (st' := [.ref 26]) hX ok_Text_readBracket rfl ?_
    refine kx_bind (fun p3 hp3 => ?_)
    refine kx_V (r := 26) (as := []) (by decide) hX ok_Text_readBracket (nx := 13) rfl l_Text_48 (by decide) rfl (fun _ => s_Text_here (G := G) (d := 0) (Nat.le_refl _) dn C p1.2  hdn p3 hp3) (by omega) rfl (rest := []) rfl (Nat.le_of_ble_eq_true rfl) ⟨Nat.le_of_ble_eq_true rfl, Nat.le_of_ble_eq_true rfl⟩ ?_
    show _ → kW G X m_Text_readBracket (cD C 14 dn) p1.2 0 0 13 [.ref 26, .int x1] [.int p3]
    refine kx_go 2 (pc' := if p3 = (41 : Int32) then 20 else 18) (lv' := [.ref 26, .int x1]) (st' := []) hX ok_Text_readBracket rfl ?_
    refine kx_ite (fun c4 => ?_) (fun c4 => ?_)
    · refine kx_go 2 (pc' := 22) (lv' := [.ref 26, .int x1]) (st' := [.ref 26, .ref 26]) hX ok_Text_readBracket rfl ?_
      refine kx_geti hX ok_Text_readBracket rfl (k := 6) (nx := 25) rfl ?_
      refine kx_go 2 (pc' := 27) (lv' := [.ref 26, .int x1]) (st' := [.int ((p1.2 26 6) + (1 : Int32)), .ref 26]) hX ok_Text_readBracket rfl ?_
      refine kx_puti hX ok_Text_readBracket rfl (k := 6) (nx := 30) rfl rfl ?_
      refine kx_lt (Q := fun J5 => kW G X m_Text_readBracket (cD C 14 dn) J5 0 0 30 [.ref 26, .int x1] []) (fun J5 eJ5 => ?_)
      refine kx_go 1 (pc' := 31) (lv' := [.ref 26, .int x1]) (st' := [.int (1 : Int32)]) hX ok_Text_readBracket rfl ?_
      intro h; have h := Option.some.inj h; subst h
      exact kx_zret hX hE ok_Text_readBracket (nx := 32) rfl rfl (Or.inr rfl) ⟨Nat.le_of_ble_eq_true rfl, Nat.le_of_ble_eq_true rfl⟩
    · refine kx_go 1 (pc' := 19) (lv' := [.ref 26, .int x1]) (st' := [.int (0 : Int32)]) hX ok_Text_readBracket rfl ?_
      intro h; have h := Option.some.inj h; subst h
      exact kx_zret hX hE ok_Text_readBracket (nx := 20) rfl rfl (Or.inl rfl) ⟨Nat.le_of_ble_eq_true rfl, Nat.le_of_ble_eq_true rfl⟩
def L_Text_readNumber_4 (dn : Nat) : Nat → Int32 → Int32 → HI → Option (Int32 × HI)
  | 0, _, _, _ => none
  | f + 1, x1, x2, I => if (4 : Int32) ≤ x2 then (some (x1, I)) else (Option.bind (M_Text_here dn I) fun p2 => if (M_Text_isDigit p2) = (0 : Int32) then (some (x1, I)) else (Option.bind (M_Text_here dn I) fun p4 => lt (xu I 26 6 ((I 26 6) + (1 : Int32))) fun J5 => L_Text_readNumber_4 dn f (((x1 * (10 : Int32)) + p4) - (48 : Int32)) (x2 + (1 : Int32)) J5))
theorem s_L_Text_readNumber_4 {G : xG} {X : xC} {d : Nat}  (hd : 1 ≤ d) (hX : xAmb G X m_Text_readNumber d 0 0) (dn : Nat) (C : HC) (hdn : dn = 1000003 ∨ dn = 1000004) : ∀ (f : Nat) (x1 : Int32) (x2 : Int32) (I : HI) (r : Int32 × HI), (kW G X m_Text_readNumber (cD C 14 dn) r.2 0 0 48 [.ref 26, .int r.1, .null] []) → L_Text_readNumber_4 dn f x1 x2 I = some r → kW G X m_Text_readNumber (cD C 14 dn) I 0 0 4 [.ref 26, .int x1, .int x2] [] := by
  intro f
  induction f with
  | zero => intro x1 x2 I r hk h; rw [L_Text_readNumber_4] at h; cases h
  | succ f ih =>
    intro x1 x2 I r hk
    rw [L_Text_readNumber_4]
    refine kx_go 3 (pc' := if (4 : Int32) ≤ x2 then 48 else 9) (lv' := [.ref 26, .int x1, .int x2]) (st' := []) hX ok_Text_readNumber rfl ?_
    refine kx_ite (fun c1 => ?_) (fun c1 => ?_)
    · refine kx_weak (lv' := [.ref 26, .int x1, .null]) (by simp [xsub]) ?_
      intro h; have h := Option.some.inj h; subst h
      exact hk
    · refine kx_go 1 (pc' := 10) (lv' := [.ref 26, .int x1, .int x2]) (st' := [.ref 26]) hX ok_Text_readNumber rfl ?_
      refine kx_bind (fun p2 hp2 => ?_)
      refine kx_V (r := 26) (as := []) (by decide) hX ok_Text_readNumber (nx := 13) rfl l_Text_48 (by decide) rfl (fun _ => s_Text_here (G := G) (d := 0) (Nat.le_refl _) dn C I  hdn p2 hp2) (by omega) rfl (rest := []) rfl (Nat.le_of_ble_eq_true rfl) ⟨Nat.le_of_ble_eq_true rfl, Nat.le_of_ble_eq_true rfl⟩ ?_
      show _ → kW G X m_Text_readNumber (cD C 14 dn) I 0 0 13 [.ref 26, .int x1, .int x2] [.int p2]
      refine kx_S (as := [.int p2]) hX ok_Text_readNumber (nx := 16) rfl l_Text_60 (fun _ => s_Text_isDigit (G := G) (d := 0) (Nat.le_refl _) (cD C 14 dn) I p2 _ rfl) (by omega) rfl (rest := []) rfl (Nat.le_of_ble_eq_true rfl) ⟨Nat.le_of_ble_eq_true rfl, Nat.le_of_ble_eq_true rfl⟩ ?_
      show _ → kW G X m_Text_readNumber (cD C 14 dn) I 0 0 16 [.ref 26, .int x1, .int x2] [.int (M_Text_isDigit p2)]
      refine kx_go 1 (pc' := if (M_Text_isDigit p2) = (0 : Int32) then 48 else 19) (lv' := [.ref 26, .int x1, .int x2]) (st' := []) hX ok_Text_readNumber rfl ?_
      refine kx_ite (fun c3 => ?_) (fun c3 => ?_)
      · refine kx_weak (lv' := [.ref 26, .int x1, .null]) (by simp [xsub]) ?_
        intro h; have h := Option.some.inj h; subst h
        exact hk
      · refine kx_go 4 (pc' := 24) (lv' := [.ref 26, .int x1, .int x2]) (st' := [.ref 26, .int (x1 * (10 : Int32))]) hX ok_Text_readNumber rfl ?_
        refine kx_bind (fun p4 hp4 => ?_)
        refine kx_V (r := 26) (as := []) (by decide) hX ok_Text_readNumber (nx := 27) rfl l_Text_48 (by decide) rfl (fun _ => s_Text_here (G := G) (d := 0) (Nat.le_refl _) dn C I  hdn p4 hp4) (by omega) rfl (rest := [.int (x1 * (10 : Int32))]) rfl (Nat.le_of_ble_eq_true rfl) ⟨Nat.le_of_ble_eq_true rfl, Nat.le_of_ble_eq_true rfl⟩ ?_
        show _ → kW G X m_Text_readNumber (cD C 14 dn) I 0 0 27 [.ref 26, .int x1, .int x2] [.int p4, .int (x1 * (10 : Int32))]
        refine kx_go 6 (pc' := 34) (lv' := [.ref 26, .int (((x1 * (10 : Int32)) + p4) - (48 : Int32)), .int x2]) (st' := [.ref 26, .ref 26]) hX ok_Text_readNumber rfl ?_
        refine kx_geti hX ok_Text_readNumber rfl (k := 6) (nx := 37) rfl ?_
        refine kx_go 2 (pc' := 39) (lv' := [.ref 26, .int (((x1 * (10 : Int32)) + p4) - (48 : Int32)), .int x2]) (st' := [.int ((I 26 6) + (1 : Int32)), .ref 26]) hX ok_Text_readNumber rfl ?_
        refine kx_puti hX ok_Text_readNumber rfl (k := 6) (nx := 42) rfl rfl ?_
        refine kx_lt (Q := fun J5 => kW G X m_Text_readNumber (cD C 14 dn) J5 0 0 42 [.ref 26, .int (((x1 * (10 : Int32)) + p4) - (48 : Int32)), .int x2] []) (fun J5 eJ5 => ?_)
        refine kx_go 2 (pc' := 4) (lv' := [.ref 26, .int (((x1 * (10 : Int32)) + p4) - (48 : Int32)), .int (x2 + (1 : Int32))]) (st' := []) hX ok_Text_readNumber rfl ?_
        exact fun h => ih (((x1 * (10 : Int32)) + p4) - (48 : Int32)) (x2 + (1 : Int32)) J5 r hk h
def M_Text_readNumber (dn : Nat) (I : HI) : Option (HI) := Option.bind (L_Text_readNumber_4 dn 1000 (0 : Int32) (0 : Int32) I) fun p1 => Option.bind (M_Text_addStep p1.2 (0 : Int32) p1.1) fun p2 => some p2
theorem s_Text_readNumber {G : xG} {d : Nat}  (hd : 1 ≤ d) (dn : Nat) (C : HC) (I : HI)   (hdn : dn = 1000003 ∨ dn = 1000004) (r : HI) : M_Text_readNumber dn I = some r → kM G d m_Text_readNumber [.ref 26] (cD C 14 dn) I 0 0 none (cD C 14 dn) r := by
  unfold M_Text_readNumber
  refine kM.of (by decide +kernel) (Nat.le_of_ble_eq_true rfl) (lv := [.ref 26, .null, .null]) rfl (fun X hX hE => ?_)
  refine kx_go 4 (pc' := 4) (lv' := [.ref 26, .int (0 : Int32), .int (0 : Int32)]) (st' := []) hX ok_Text_readNumber rfl ?_
  refine kx_bind (fun p1 hp1 => ?_)
  refine kx_via (fun hk => s_L_Text_readNumber_4 (G := G) (X := X) (by omega) hX dn C hdn 1000 (0 : Int32) (0 : Int32) I p1 hk hp1) ?_
  refine kx_go 3 (pc' := 51) (lv' := [.ref 26, .int p1.1, .null]) (st' := [.int p1.1, .int (0 : Int32), .ref 26]) hX ok_Text_readNumber rfl ?_
  refine kx_bind (fun p2 hp2 => ?_)
  refine kx_V (r := 26) (as := [.int (0 : Int32), .int p1.1]) (by decide) hX ok_Text_readNumber (nx := 54) rfl l_Text_56 (by decide) rfl (fun _ => s_Text_addStep (G := G) (d := 0) (Nat.le_refl _) (cD C 14 dn) p1.2 (0 : Int32) p1.1 p2 hp2) (by omega) rfl (rest := []) rfl (Nat.le_of_ble_eq_true rfl) ⟨Nat.le_of_ble_eq_true rfl, Nat.le_of_ble_eq_true rfl⟩ ?_
  show _ → kW G X m_Text_readNumber (cD C 14 dn) p2 0 0 54 [.ref 26, .int p1.1, .null] []
  intro h; have h := Option.some.inj h; subst h
  exact kx_vret hX hE ok_Text_readNumber (nx := 55) rfl rfl ⟨Nat.le_of_ble_eq_true rfl, Nat.le_of_ble_eq_true rfl⟩
def M_Text_readLeaf (dn : Nat) (rl : Int32 → Int32 → HI → Option (Int32 × HI)) (rf : Int32 → HI → Option (Int32 × HI)) (I : HI) (x1 : Int32) : Option (Int32 × HI) := Option.bind (M_Text_here dn I) fun p1 => if (M_Text_isDigit p1) = (0 : Int32) then (if p1 = (33 : Int32) then (if x1 < (5 : Int32) then (lt (xu I 26 6 ((I 26 6) + (1 : Int32))) fun J5 => Option.bind (M_Text_readNot dn rl rf J5 (x1 + (1 : Int32))) fun p6 => grd (b01 p6.1) (some (p6.1, p6.2))) else (some ((0 : Int32), I))) else (if p1 = (40 : Int32) then (if x1 < (5 : Int32) then (lt (xu I 26 6 ((I 26 6) + (1 : Int32))) fun J10 => Option.bind (M_Text_readBracket dn rl rf J10 (x1 + (1 : Int32))) fun p11 => grd (b01 p11.1) (some (p11.1, p11.2))) else (some ((0 : Int32), I))) else (if (0 : Int32) ≤ p1 then (if (0 : Int32) ≤ (sidx dn (i2c p1)) then (lt (xu I 26 6 ((I 26 6) + (1 : Int32))) fun J15 => Option.bind (M_Text_addStep J15 (1 : Int32) (sidx dn (i2c p1))) fun p16 => some ((1 : Int32), p16)) else (some ((0 : Int32), I))) else (some ((0 : Int32), I))))) else (Option.bind (M_Text_readNumber dn I) fun p17 => some ((1 : Int32), p17))
theorem s_Text_readLeaf {G : xG} {d : Nat} {du : Nat} (hd : du + 7 ≤ d) (dn : Nat) (rl : Int32 → Int32 → HI → Option (Int32 × HI)) (rf : Int32 → HI → Option (Int32 × HI)) (C : HC) (I : HI) (x1 : Int32)  (hdn : dn = 1000003 ∨ dn = 1000004) (hrl : ∀ (a0 : Int32) (a1 : Int32) (I : HI) (r : Int32 × HI), rl a0 a1 I = some r → kM G du m_Text_readLevel [.ref 26, .int a0, .int a1] (cD C 14 dn) I 0 0 (some (.int r.1)) (cD C 14 dn) r.2) (hrf : ∀ (a0 : Int32) (I : HI) (r : Int32 × HI), rf a0 I = some r → kM G du m_Text_readLeaf [.ref 26, .int a0] (cD C 14 dn) I 0 0 (some (.int r.1)) (cD C 14 dn) r.2) (r : Int32 × HI) : M_Text_readLeaf dn rl rf I x1 = some r → kM G d m_Text_readLeaf [.ref 26, .int x1] (cD C 14 dn) I 0 0 (some (.int r.1)) (cD C 14 dn) r.2 := by
  unfold M_Text_readLeaf
  refine kM.of (by decide +kernel) (Nat.le_of_ble_eq_true rfl) (lv := [.ref 26, .int x1, .null, .null]) rfl (fun X hX hE => ?_)
  refine kx_go 1 (pc' := 1) (lv' := [.ref 26, .int x1, .null, .null]) (st' := [.ref 26]) hX ok_Text_readLeaf rfl ?_
  refine kx_bind (fun p1 hp1 => ?_)
  refine kx_V (r := 26) (as := []) (by decide) hX ok_Text_readLeaf (nx := 4) rfl l_Text_48 (by decide) rfl (fun _ => s_Text_here (G := G) (d := 0) (Nat.le_refl _) dn C I  hdn p1 hp1) (by omega) rfl (rest := []) rfl (Nat.le_of_ble_eq_true rfl) ⟨Nat.le_of_ble_eq_true rfl, Nat.le_of_ble_eq_true rfl⟩ ?_
  show _ → kW G X m_Text_readLeaf (cD C 14 dn) I 0 0 4 [.ref 26, .int x1, .null, .null] [.int p1]
  refine kx_go 2 (pc' := 6) (lv' := [.ref 26, .int x1, .int p1, .null]) (st' := [.int p1]) hX ok_Text_readLeaf rfl ?_
  refine kx_S (as := [.int p1]) hX ok_Text_readLeaf (nx := 9) rfl l_Text_60 (fun _ => s_Text_isDigit (G := G) (d := 0) (Nat.le_refl _) (cD C 14 dn) I p1 _ rfl) (by omega) rfl (rest := []) rfl (Nat.le_of_ble_eq_true rfl) ⟨Nat.le_of_ble_eq_true rfl, Nat.le_of_ble_eq_true rfl⟩ ?_
  show _ → kW G X m_Text_readLeaf (cD C 14 dn) I 0 0 9 [.ref 26, .int x1, .int p1, .null] [.int (M_Text_isDigit p1)]
  refine kx_go 1 (pc' := if (M_Text_isDigit p1) = (0 : Int32) then 18 else 12) (lv' := [.ref 26, .int x1, .int p1, .null]) (st' := []) hX ok_Text_readLeaf rfl ?_
  refine kx_ite (fun c2 => ?_) (fun c2 => ?_)
  · refine kx_go 3 (pc' := if p1 = (33 : Int32) then 30 else 24) (lv' := [.ref 26, .int x1, .int p1, .null]) (st' := []) hX ok_Text_readLeaf rfl ?_
    refine kx_ite (fun c3 => ?_) (fun c3 => ?_)
    · refine kx_go 3 (pc' := if x1 < (5 : Int32) then 37 else 35) (lv' := [.ref 26, .int x1, .int p1, .null]) (st' := []) hX ok_Text_readLeaf rfl ?_
      refine kx_ite (fun c4 => ?_) (fun c4 => ?_)
      · refine kx_go 2 (pc' := 39) (lv' := [.ref 26, .int x1, .int p1, .null]) (st' := [.ref 26, .ref 26]) hX ok_Text_readLeaf rfl ?_
        refine kx_geti hX ok_Text_readLeaf rfl (k := 6) (nx := 42) rfl ?_
        refine kx_go 2 (pc' := 44) (lv' := [.ref 26, .int x1, .int p1, .null]) (st' := [.int ((I 26 6) + (1 : Int32)), .ref 26]) hX ok_Text_readLeaf rfl ?_
        refine kx_puti hX ok_Text_readLeaf rfl (k := 6) (nx := 47) rfl rfl ?_
        refine kx_lt (Q := fun J5 => kW G X m_Text_readLeaf (cD C 14 dn) J5 0 0 47 [.ref 26, .int x1, .int p1, .null] []) (fun J5 eJ5 => ?_)
        refine kx_go 3 (pc' := if p1 = (33 : Int32) then 53 else 63) (lv' := [.ref 26, .int x1, .int p1, .null]) (st' := []) hX ok_Text_readLeaf rfl ?_
        refine kx_yes c3 ?_
        refine kx_go 4 (pc' := 57) (lv' := [.ref 26, .int x1, .int p1, .null]) (st' := [.int (x1 + (1 : Int32)), .ref 26]) hX ok_Text_readLeaf rfl ?_
        refine kx_bind (fun p6 hp6 => ?_)
        refine kx_V (r := 26) (as := [.int (x1 + (1 : Int32))]) (by decide) hX ok_Text_readLeaf (nx := 60) rfl l_Text_66 (by decide) rfl (fun _ => s_Text_readNot (G := G) (d := du + 1) (Nat.le_refl _) dn rl rf C J5 (x1 + (1 : Int32)) hdn hrl hrf p6 hp6) (by omega) rfl (rest := []) rfl (Nat.le_of_ble_eq_true rfl) ⟨Nat.le_of_ble_eq_true rfl, Nat.le_of_ble_eq_true rfl⟩ ?_
        show _ → kW G X m_Text_readLeaf (cD C 14 dn) p6.2 0 0 60 [.ref 26, .int x1, .int p1, .null] [.int p6.1]
        refine kx_go 1 (pc' := 70) (lv' := [.ref 26, .int x1, .int p1, .null]) (st' := [.int p6.1]) hX ok_Text_readLeaf rfl ?_
        refine kx_grd (fun h7 => ?_)
        intro h; have h := Option.some.inj h; subst h
        exact kx_zret hX hE ok_Text_readLeaf (nx := 71) rfl rfl (b01_or h7) ⟨Nat.le_of_ble_eq_true rfl, Nat.le_of_ble_eq_true rfl⟩
      · refine kx_go 1 (pc' := 36) (lv' := [.ref 26, .int x1, .int p1, .null]) (st' := [.int (0 : Int32)]) hX ok_Text_readLeaf rfl ?_
        intro h; have h := Option.some.inj h; subst h
        exact kx_zret hX hE ok_Text_readLeaf (nx := 37) rfl rfl (Or.inl rfl) ⟨Nat.le_of_ble_eq_true rfl, Nat.le_of_ble_eq_true rfl⟩
    · refine kx_go 3 (pc' := if p1 = (40 : Int32) then 30 else 71) (lv' := [.ref 26, .int x1, .int p1, .null]) (st' := []) hX ok_Text_readLeaf rfl ?_
      refine kx_ite (fun c8 => ?_) (fun c8 => ?_)
      · refine kx_go 3 (pc' := if x1 < (5 : Int32) then 37 else 35) (lv' := [.ref 26, .int x1, .int p1, .null]) (st' := []) hX ok_Text_readLeaf rfl ?_
        refine kx_ite (fun c9 => ?_) (fun c9 => ?_)
        · refine kx_go 2 (pc' := 39) (lv' := [.ref 26, .int x1, .int p1, .null]) (st' := [.ref 26, .ref 26]) hX ok_Text_readLeaf rfl ?_
          refine kx_geti hX ok_Text_readLeaf rfl (k := 6) (nx := 42) rfl ?_
          refine kx_go 2 (pc' := 44) (lv' := [.ref 26, .int x1, .int p1, .null]) (st' := [.int ((I 26 6) + (1 : Int32)), .ref 26]) hX ok_Text_readLeaf rfl ?_
          refine kx_puti hX ok_Text_readLeaf rfl (k := 6) (nx := 47) rfl rfl ?_
          refine kx_lt (Q := fun J10 => kW G X m_Text_readLeaf (cD C 14 dn) J10 0 0 47 [.ref 26, .int x1, .int p1, .null] []) (fun J10 eJ10 => ?_)
          refine kx_go 3 (pc' := if p1 = (33 : Int32) then 53 else 63) (lv' := [.ref 26, .int x1, .int p1, .null]) (st' := []) hX ok_Text_readLeaf rfl ?_
          refine kx_no c3 ?_
          refine kx_go 4 (pc' := 67) (lv' := [.ref 26, .int x1, .int p1, .null]) (st' := [.int (x1 + (1 : Int32)), .ref 26]) hX ok_Text_readLeaf rfl ?_
          refine kx_bind (fun p11 hp11 => ?_)
          refine kx_V (r := 26) (as := [.int (x1 + (1 : Int32))]) (by decide) hX ok_Text_readLeaf (nx := 70) rfl l_Text_69 (by decide) rfl (fun _ => s_Text_readBracket (G := G) (d := du + 1) (Nat.le_refl _) dn rl rf C J10 (x1 + (1 : Int32)) hdn hrl hrf p11 hp11) (by omega) rfl (rest := []) rfl (Nat.le_of_ble_eq_true rfl) ⟨Nat.le_of_ble_eq_true rfl, Nat.le_of_ble_eq_true rfl⟩ ?_
          show _ → kW G X m_Text_readLeaf (cD C 14 dn) p11.2 0 0 70 [.ref 26, .int x1, .int p1, .null] [.int p11.1]
          refine kx_grd (fun h12 => ?_)
          intro h; have h := Option.some.inj h; subst h
          exact kx_zret hX hE ok_Text_readLeaf (nx := 71) rfl rfl (b01_or h12) ⟨Nat.le_of_ble_eq_true rfl, Nat.le_of_ble_eq_true rfl⟩
        · refine kx_go 1 (pc' := 36) (lv' := [.ref 26, .int x1, .int p1, .null]) (st' := [.int (0 : Int32)]) hX ok_Text_readLeaf rfl ?_
          intro h; have h := Option.some.inj h; subst h
          exact kx_zret hX hE ok_Text_readLeaf (nx := 37) rfl rfl (Or.inl rfl) ⟨Nat.le_of_ble_eq_true rfl, Nat.le_of_ble_eq_true rfl⟩
      · refine kx_go 2 (pc' := if (0 : Int32) ≤ p1 then 79 else 75) (lv' := [.ref 26, .int x1, .int p1, .null]) (st' := []) hX ok_Text_readLeaf rfl ?_
        refine kx_ite (fun c13 => ?_) (fun c13 => ?_)
        · refine kx_go 1 (pc' := 80) (lv' := [.ref 26, .int x1, .int p1, .null]) (st' := [.ref 26]) hX ok_Text_readLeaf rfl ?_
          refine kx_getdn hX ok_Text_readLeaf rfl (nx := 83) rfl ?_
          show _ → kW G X m_Text_readLeaf (cD C 14 dn) I 0 0 83 [.ref 26, .int x1, .int p1, .null] [.ref dn]
          refine kx_go 2 (pc' := 85) (lv' := [.ref 26, .int x1, .int p1, .null]) (st' := [.int (i2c p1), .ref dn]) hX ok_Text_readLeaf rfl ?_
          refine kx_idx (d := d) (by omega) hdn ⟨Nat.le_of_ble_eq_true rfl, Nat.le_of_ble_eq_true rfl⟩ hX ok_Text_readLeaf (nx := 88) rfl l_Text_72 (Nat.le_of_ble_eq_true rfl) ?_
          refine kx_go 3 (pc' := if (0 : Int32) ≤ (sidx dn (i2c p1)) then 95 else 93) (lv' := [.ref 26, .int x1, .int p1, .int (sidx dn (i2c p1))]) (st' := []) hX ok_Text_readLeaf rfl ?_
          refine kx_ite (fun c14 => ?_) (fun c14 => ?_)
          · refine kx_go 2 (pc' := 97) (lv' := [.ref 26, .int x1, .int p1, .int (sidx dn (i2c p1))]) (st' := [.ref 26, .ref 26]) hX ok_Text_readLeaf rfl ?_
            refine kx_geti hX ok_Text_readLeaf rfl (k := 6) (nx := 100) rfl ?_
            refine kx_go 2 (pc' := 102) (lv' := [.ref 26, .int x1, .int p1, .int (sidx dn (i2c p1))]) (st' := [.int ((I 26 6) + (1 : Int32)), .ref 26]) hX ok_Text_readLeaf rfl ?_
            refine kx_puti hX ok_Text_readLeaf rfl (k := 6) (nx := 105) rfl rfl ?_
            refine kx_lt (Q := fun J15 => kW G X m_Text_readLeaf (cD C 14 dn) J15 0 0 105 [.ref 26, .int x1, .int p1, .int (sidx dn (i2c p1))] []) (fun J15 eJ15 => ?_)
            refine kx_go 3 (pc' := 108) (lv' := [.ref 26, .int x1, .int p1, .int (sidx dn (i2c p1))]) (st' := [.int (sidx dn (i2c p1)), .int (1 : Int32), .ref 26]) hX ok_Text_readLeaf rfl ?_
            refine kx_bind (fun p16 hp16 => ?_)
            refine kx_V (r := 26) (as := [.int (1 : Int32), .int (sidx dn (i2c p1))]) (by decide) hX ok_Text_readLeaf (nx := 111) rfl l_Text_56 (by decide) rfl (fun _ => s_Text_addStep (G := G) (d := 0) (Nat.le_refl _) (cD C 14 dn) J15 (1 : Int32) (sidx dn (i2c p1)) p16 hp16) (by omega) rfl (rest := []) rfl (Nat.le_of_ble_eq_true rfl) ⟨Nat.le_of_ble_eq_true rfl, Nat.le_of_ble_eq_true rfl⟩ ?_
            show _ → kW G X m_Text_readLeaf (cD C 14 dn) p16 0 0 111 [.ref 26, .int x1, .int p1, .int (sidx dn (i2c p1))] []
            refine kx_go 1 (pc' := 112) (lv' := [.ref 26, .int x1, .int p1, .int (sidx dn (i2c p1))]) (st' := [.int (1 : Int32)]) hX ok_Text_readLeaf rfl ?_
            intro h; have h := Option.some.inj h; subst h
            exact kx_zret hX hE ok_Text_readLeaf (nx := 113) rfl rfl (Or.inr rfl) ⟨Nat.le_of_ble_eq_true rfl, Nat.le_of_ble_eq_true rfl⟩
          · refine kx_go 1 (pc' := 94) (lv' := [.ref 26, .int x1, .int p1, .int (sidx dn (i2c p1))]) (st' := [.int (0 : Int32)]) hX ok_Text_readLeaf rfl ?_
            intro h; have h := Option.some.inj h; subst h
            exact kx_zret hX hE ok_Text_readLeaf (nx := 95) rfl rfl (Or.inl rfl) ⟨Nat.le_of_ble_eq_true rfl, Nat.le_of_ble_eq_true rfl⟩
        · refine kx_go 5 (pc' := if (0 : Int32) ≤ (-1 : Int32) then 95 else 93) (lv' := [.ref 26, .int x1, .int p1, .int (-1 : Int32)]) (st' := []) hX ok_Text_readLeaf rfl ?_
          refine kx_no (by decide) ?_
          refine kx_go 1 (pc' := 94) (lv' := [.ref 26, .int x1, .int p1, .int (-1 : Int32)]) (st' := [.int (0 : Int32)]) hX ok_Text_readLeaf rfl ?_
          intro h; have h := Option.some.inj h; subst h
          exact kx_zret hX hE ok_Text_readLeaf (nx := 95) rfl rfl (Or.inl rfl) ⟨Nat.le_of_ble_eq_true rfl, Nat.le_of_ble_eq_true rfl⟩
  · refine kx_go 1 (pc' := 13) (lv' := [.ref 26, .int x1, .int p1, .null]) (st' := [.ref 26]) hX ok_Text_readLeaf rfl ?_
    refine kx_bind (fun p17 hp17 => ?_)
    refine kx_V (r := 26) (as := []) (by decide) hX ok_Text_readLeaf (nx := 16) rfl l_Text_63 (by decide) rfl (fun _ => s_Text_readNumber (G := G) (d := 1) (Nat.le_refl _) dn C I  hdn p17 hp17) (by omega) rfl (rest := []) rfl (Nat.le_of_ble_eq_true rfl) ⟨Nat.le_of_ble_eq_true rfl, Nat.le_of_ble_eq_true rfl⟩ ?_
    show _ → kW G X m_Text_readLeaf (cD C 14 dn) p17 0 0 16 [.ref 26, .int x1, .int p1, .null] []
    refine kx_go 1 (pc' := 17) (lv' := [.ref 26, .int x1, .int p1, .null]) (st' := [.int (1 : Int32)]) hX ok_Text_readLeaf rfl ?_
    intro h; have h := Option.some.inj h; subst h
    exact kx_zret hX hE ok_Text_readLeaf (nx := 18) rfl rfl (Or.inr rfl) ⟨Nat.le_of_ble_eq_true rfl, Nat.le_of_ble_eq_true rfl⟩
