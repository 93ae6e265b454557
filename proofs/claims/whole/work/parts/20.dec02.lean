def U_rd (dn : Nat) : Nat → Bool → Int32 → Int32 → HI → Option (Int32 × HI)
  | 0, _, _, _, _ => none
  | f + 1, true, a, b, I => M_Text_readLevel dn (U_rd dn f true) (U_rd dn f false 0) I a b
  | f + 1, false, _, b, I => M_Text_readLeaf dn (U_rd dn f true) (U_rd dn f false 0) I b
def U_rl (dn f : Nat) : Int32 → Int32 → HI → Option (Int32 × HI) := U_rd dn f true
def U_rf (dn f : Nat) : Int32 → HI → Option (Int32 × HI) := U_rd dn f false 0
theorem s_U_rd {G : xG} (C : HC) (dn : Nat) (hdn : dn = 1000003 ∨ dn = 1000004) : ∀ (f : Nat), (∀ (a b : Int32) (I : HI) (r : Int32 × HI), U_rd dn f true a b I = some r → kM G (9 * f) m_Text_readLevel [.ref 26, .int a, .int b] (cD C 14 dn) I 0 0 (some (.int r.1)) (cD C 14 dn) r.2) ∧ (∀ (a : Int32) (I : HI) (r : Int32 × HI), U_rd dn f false 0 a I = some r → kM G (9 * f) m_Text_readLeaf [.ref 26, .int a] (cD C 14 dn) I 0 0 (some (.int r.1)) (cD C 14 dn) r.2) := by
  intro f
  induction f with
  | zero =>
    refine ⟨fun a b I r h => ?_, fun a I r h => ?_⟩
    · rw [U_rd] at h; cases h
    · rw [U_rd] at h; cases h
  | succ f ih =>
    refine ⟨fun a b I r h => ?_, fun a I r h => ?_⟩
    · rw [U_rd] at h
      exact s_Text_readLevel (du := 9 * f) (by omega) dn (U_rd dn f true) (U_rd dn f false 0) C I a b hdn ih.1 ih.2 r h
    · rw [U_rd] at h
      exact s_Text_readLeaf (du := 9 * f) (by omega) dn (U_rd dn f true) (U_rd dn f false 0) C I a hdn ih.1 ih.2 r h
theorem s_U_rl {G : xG} (C : HC) (dn : Nat) (hdn : dn = 1000003 ∨ dn = 1000004) (f : Nat) : ∀ (a b : Int32) (I : HI) (r : Int32 × HI), U_rl dn f a b I = some r → kM G (9 * f) m_Text_readLevel [.ref 26, .int a, .int b] (cD C 14 dn) I 0 0 (some (.int r.1)) (cD C 14 dn) r.2 := (s_U_rd C dn hdn f).1
theorem s_U_rf {G : xG} (C : HC) (dn : Nat) (hdn : dn = 1000003 ∨ dn = 1000004) (f : Nat) : ∀ (a : Int32) (I : HI) (r : Int32 × HI), U_rf dn f a I = some r → kM G (9 * f) m_Text_readLeaf [.ref 26, .int a] (cD C 14 dn) I 0 0 (some (.int r.1)) (cD C 14 dn) r.2 := (s_U_rd C dn hdn f).2
def M_Model_finds (I : HI) (x1 : Int32) : Option (Int32 × HI) := grd (bnd x1 6) (lt (xu I 91 x1.toNatClampNeg ((I 91 x1.toNatClampNeg) + (1 : Int32))) fun J2 => some (((-1000000000 : Int32) - x1), J2))
theorem s_Model_finds {G : xG} {d : Nat} (hd : 0 ≤ d) (C : HC) (I : HI) (x1 : Int32)  (r : Int32 × HI) : M_Model_finds I x1 = some r → kM G d m_Model_finds [.ref 88, .int x1] C I 0 0 (some (.int r.1)) C r.2 := by
  unfold M_Model_finds
  refine kM.of (by decide +kernel) (Nat.le_of_ble_eq_true rfl) (lv := [.ref 88, .int x1]) rfl (fun X hX hE => ?_)
  refine kx_go 1 (pc' := 1) (lv' := [.ref 88, .int x1]) (st' := [.ref 88]) hX ok_Model_finds rfl ?_
  refine kx_getp hX ok_Model_finds rfl (q := 91) (nx := 4) rfl ?_
  refine kx_go 2 (pc' := 6) (lv' := [.ref 88, .int x1]) (st' := [.int x1, .ref 91, .int x1, .ref 91]) hX ok_Model_finds rfl ?_
  refine kx_iald hX ok_Model_finds (w := 6) (nx := 7) rfl (fun b1 => ?_)
  refine kx_go 2 (pc' := 9) (lv' := [.ref 88, .int x1]) (st' := [.int ((I 91 x1.toNatClampNeg) + (1 : Int32)), .int x1, .ref 91]) hX ok_Model_finds rfl ?_
  refine kx_iastc hX ok_Model_finds (w := 6) (nx := 10) rfl b1 (k := x1.toNatClampNeg) rfl ?_
  refine kx_lt (Q := fun J2 => kW G X m_Model_finds C J2 0 0 10 [.ref 88, .int x1] []) (fun J2 eJ2 => ?_)
  refine kx_go 3 (pc' := 14) (lv' := [.ref 88, .int x1]) (st' := [.int ((-1000000000 : Int32) - x1)]) hX ok_Model_finds rfl ?_
  intro h; have h := Option.some.inj h; subst h
  exact kx_iret hX hE ok_Model_finds (nx := 15) rfl rfl ⟨Nat.le_of_ble_eq_true rfl, Nat.le_of_ble_eq_true rfl⟩
def M_Model_becomes (I : HI) (x1 : Int32) (x2 : Int32) (x3 : Int32) : Option (HI) := grd (bnd (((5 : Int32) + ((7 : Int32) * x1)) + x2) 270) (lt (xu I 89 (((5 : Int32) + ((7 : Int32) * x1)) + x2).toNatClampNeg x3) fun J2 => some J2)
theorem s_Model_becomes {G : xG} {d : Nat} (hd : 0 ≤ d) (C : HC) (I : HI) (x1 : Int32) (x2 : Int32) (x3 : Int32)  (r : HI) : M_Model_becomes I x1 x2 x3 = some r → kM G d m_Model_becomes [.ref 88, .int x1, .int x2, .int x3] C I 0 0 none C r := by
  unfold M_Model_becomes
  refine kM.of (by decide +kernel) (Nat.le_of_ble_eq_true rfl) (lv := [.ref 88, .int x1, .int x2, .int x3]) rfl (fun X hX hE => ?_)
  refine kx_go 1 (pc' := 1) (lv' := [.ref 88, .int x1, .int x2, .int x3]) (st' := [.ref 88]) hX ok_Model_becomes rfl ?_
  refine kx_getp hX ok_Model_becomes rfl (q := 89) (nx := 4) rfl ?_
  refine kx_go 8 (pc' := 13) (lv' := [.ref 88, .int x1, .int x2, .int x3]) (st' := [.int x3, .int (((5 : Int32) + ((7 : Int32) * x1)) + x2), .ref 89]) hX ok_Model_becomes rfl ?_
  refine kx_iast hX ok_Model_becomes (w := 270) (nx := 14) rfl (fun b1 => ?_)
  refine kx_lt (Q := fun J2 => kW G X m_Model_becomes C J2 0 0 14 [.ref 88, .int x1, .int x2, .int x3] []) (fun J2 eJ2 => ?_)
  intro h; have h := Option.some.inj h; subst h
  exact kx_vret hX hE ok_Model_becomes (nx := 15) rfl rfl ⟨Nat.le_of_ble_eq_true rfl, Nat.le_of_ble_eq_true rfl⟩
def M_Model_stroke (I : HI) (x1 : Int32) (x2 : Int32) (x3 : Int32) : Option (Int32 × HI) := if (M_Model_in (x1.toInt64) (Int64.ofNat 0) (Int64.ofNat 69)) = (0 : Int32) then (Option.bind (M_Model_finds I (1 : Int32)) fun p2 => some (p2.1, p2.2)) else (if (M_Model_in (x2.toInt64) (Int64.ofNat 0) (Int64.ofNat 35)) = (0 : Int32) then (Option.bind (M_Model_finds I (1 : Int32)) fun p4 => some (p4.1, p4.2)) else (if (M_Model_in (x3.toInt64) (Int64.ofNat 0) (Int64.ofNat 99)) = (0 : Int32) then (Option.bind (M_Model_finds I (1 : Int32)) fun p6 => some (p6.1, p6.2)) else (if (I 89 0) = (8 : Int32) then (Option.bind (M_Model_finds I (4 : Int32)) fun p8 => some (p8.1, p8.2)) else (Option.bind (M_Model_becomes I (I 89 0) (0 : Int32) (x1 / (10 : Int32))) fun p9 => Option.bind (M_Model_becomes p9 (I 89 0) (1 : Int32) (x1 - x1 / (10 : Int32) * (10 : Int32))) fun p10 => Option.bind (M_Model_becomes p10 (I 89 0) (2 : Int32) x2) fun p11 => Option.bind (M_Model_becomes p11 (I 89 0) (3 : Int32) x3) fun p12 => Option.bind (M_Model_becomes p12 (I 89 0) (4 : Int32) (0 : Int32)) fun p13 => Option.bind (M_Model_becomes p13 (I 89 0) (5 : Int32) (9999 : Int32)) fun p14 => Option.bind (M_Model_becomes p14 (I 89 0) (6 : Int32) (0 : Int32)) fun p15 => lt (xu p15 89 0 ((p15 89 0) + (1 : Int32))) fun J16 => some ((I 89 0), J16)))))
theorem s_Model_stroke {G : xG} {d : Nat} (hd : 1 ≤ d) (C : HC) (I : HI) (x1 : Int32) (x2 : Int32) (x3 : Int32)  (r : Int32 × HI) : M_Model_stroke I x1 x2 x3 = some r → kM G d m_Model_stroke [.ref 88, .int x1, .int x2, .int x3] C I 0 0 (some (.int r.1)) C r.2 := by
  unfold M_Model_stroke
  refine kM.of (by decide +kernel) (Nat.le_of_ble_eq_true rfl) (lv := [.ref 88, .int x1, .int x2, .int x3, .null]) rfl (fun X hX hE => ?_)
  refine kx_go 4 (pc' := 6) (lv' := [.ref 88, .int x1, .int x2, .int x3, .null]) (st' := [.long (Int64.ofNat 69), .long (Int64.ofNat 0), .long (x1.toInt64)]) hX ok_Model_stroke rfl ?_
  refine kx_S (as := [.long (x1.toInt64), .long (Int64.ofNat 0), .long (Int64.ofNat 69)]) hX ok_Model_stroke (nx := 9) rfl l_Model_66 (fun _ => s_Model_in (G := G) (d := 0) (Nat.le_refl _) C I (x1.toInt64) (Int64.ofNat 0) (Int64.ofNat 69) _ rfl) (by omega) rfl (rest := []) rfl (Nat.le_of_ble_eq_true rfl) ⟨Nat.le_of_ble_eq_true rfl, Nat.le_of_ble_eq_true rfl⟩ ?_
  show _ → kW G X m_Model_stroke C I 0 0 9 [.ref 88, .int x1, .int x2, .int x3, .null] [.int (M_Model_in (x1.toInt64) (Int64.ofNat 0) (Int64.ofNat 69))]
  refine kx_go 1 (pc' := if (M_Model_in (x1.toInt64) (Int64.ofNat 0) (Int64.ofNat 69)) = (0 : Int32) then 36 else 12) (lv' := [.ref 88, .int x1, .int x2, .int x3, .null]) (st' := []) hX ok_Model_stroke rfl ?_
  refine kx_ite (fun c1 => ?_) (fun c1 => ?_)
  · refine kx_go 2 (pc' := 38) (lv' := [.ref 88, .int x1, .int x2, .int x3, .null]) (st' := [.int (1 : Int32), .ref 88]) hX ok_Model_stroke rfl ?_
    refine kx_bind (fun p2 hp2 => ?_)
    refine kx_V (r := 88) (as := [.int (1 : Int32)]) (by decide) hX ok_Model_stroke (nx := 41) rfl l_Model_129 (by decide) rfl (fun _ => s_Model_finds (G := G) (d := 0) (Nat.le_refl _) C I (1 : Int32) p2 hp2) (by omega) rfl (rest := []) rfl (Nat.le_of_ble_eq_true rfl) ⟨Nat.le_of_ble_eq_true rfl, Nat.le_of_ble_eq_true rfl⟩ ?_
    show _ → kW G X m_Model_stroke C p2.2 0 0 41 [.ref 88, .int x1, .int x2, .int x3, .null] [.int p2.1]
    intro h; have h := Option.some.inj h; subst h
    exact kx_iret hX hE ok_Model_stroke (nx := 42) rfl rfl ⟨Nat.le_of_ble_eq_true rfl, Nat.le_of_ble_eq_true rfl⟩
  · refine kx_go 4 (pc' := 18) (lv' := [.ref 88, .int x1, .int x2, .int x3, .null]) (st' := [.long (Int64.ofNat 35), .long (Int64.ofNat 0), .long (x2.toInt64)]) hX ok_Model_stroke rfl ?_
    refine kx_S (as := [.long (x2.toInt64), .long (Int64.ofNat 0), .long (Int64.ofNat 35)]) hX ok_Model_stroke (nx := 21) rfl l_Model_66 (fun _ => s_Model_in (G := G) (d := 0) (Nat.le_refl _) C I (x2.toInt64) (Int64.ofNat 0) (Int64.ofNat 35) _ rfl) (by omega) rfl (rest := []) rfl (Nat.le_of_ble_eq_true rfl) ⟨Nat.le_of_ble_eq_true rfl, Nat.le_of_ble_eq_true rfl⟩ ?_
    show _ → kW G X m_Model_stroke C I 0 0 21 [.ref 88, .int x1, .int x2, .int x3, .null] [.int (M_Model_in (x2.toInt64) (Int64.ofNat 0) (Int64.ofNat 35))]
    refine kx_go 1 (pc' := if (M_Model_in (x2.toInt64) (Int64.ofNat 0) (Int64.ofNat 35)) = (0 : Int32) then 36 else 24) (lv' := [.ref 88, .int x1, .int x2, .int x3, .null]) (st' := []) hX ok_Model_stroke rfl ?_
    refine kx_ite (fun c3 => ?_) (fun c3 => ?_)
    · refine kx_go 2 (pc' := 38) (lv' := [.ref 88, .int x1, .int x2, .int x3, .null]) (st' := [.int (1 : Int32), .ref 88]) hX ok_Model_stroke rfl ?_
      refine kx_bind (fun p4 hp4 => ?_)
      refine kx_V (r := 88) (as := [.int (1 : Int32)]) (by decide) hX ok_Model_stroke (nx := 41) rfl l_Model_129 (by decide) rfl (fun _ => s_Model_finds (G := G) (d := 0) (Nat.le_refl _) C I (1 : Int32) p4 hp4) (by omega) rfl (rest := []) rfl (Nat.le_of_ble_eq_true rfl) ⟨Nat.le_of_ble_eq_true rfl, Nat.le_of_ble_eq_true rfl⟩ ?_
      show _ → kW G X m_Model_stroke C p4.2 0 0 41 [.ref 88, .int x1, .int x2, .int x3, .null] [.int p4.1]
      intro h; have h := Option.some.inj h; subst h
      exact kx_iret hX hE ok_Model_stroke (nx := 42) rfl rfl ⟨Nat.le_of_ble_eq_true rfl, Nat.le_of_ble_eq_true rfl⟩
    · refine kx_go 4 (pc' := 30) (lv' := [.ref 88, .int x1, .int x2, .int x3, .null]) (st' := [.long (Int64.ofNat 99), .long (Int64.ofNat 0), .long (x3.toInt64)]) hX ok_Model_stroke rfl ?_
      refine kx_S (as := [.long (x3.toInt64), .long (Int64.ofNat 0), .long (Int64.ofNat 99)]) hX ok_Model_stroke (nx := 33) rfl l_Model_66 (fun _ => s_Model_in (G := G) (d := 0) (Nat.le_refl _) C I (x3.toInt64) (Int64.ofNat 0) (Int64.ofNat 99) _ rfl) (by omega) rfl (rest := []) rfl (Nat.le_of_ble_eq_true rfl) ⟨Nat.le_of_ble_eq_true rfl, Nat.le_of_ble_eq_true rfl⟩ ?_
      show _ → kW G X m_Model_stroke C I 0 0 33 [.ref 88, .int x1, .int x2, .int x3, .null] [.int (M_Model_in (x3.toInt64) (Int64.ofNat 0) (Int64.ofNat 99))]
      refine kx_go 1 (pc' := if (M_Model_in (x3.toInt64) (Int64.ofNat 0) (Int64.ofNat 99)) = (0 : Int32) then 36 else 42) (lv' := [.ref 88, .int x1, .int x2, .int x3, .null]) (st' := []) hX ok_Model_stroke rfl ?_
      refine kx_ite (fun c5 => ?_) (fun c5 => ?_)
      · refine kx_go 2 (pc' := 38) (lv' := [.ref 88, .int x1, .int x2, .int x3, .null]) (st' := [.int (1 : Int32), .ref 88]) hX ok_Model_stroke rfl ?_
        refine kx_bind (fun p6 hp6 => ?_)
        refine kx_V (r := 88) (as := [.int (1 : Int32)]) (by decide) hX ok_Model_stroke (nx := 41) rfl l_Model_129 (by decide) rfl (fun _ => s_Model_finds (G := G) (d := 0) (Nat.le_refl _) C I (1 : Int32) p6 hp6) (by omega) rfl (rest := []) rfl (Nat.le_of_ble_eq_true rfl) ⟨Nat.le_of_ble_eq_true rfl, Nat.le_of_ble_eq_true rfl⟩ ?_
        show _ → kW G X m_Model_stroke C p6.2 0 0 41 [.ref 88, .int x1, .int x2, .int x3, .null] [.int p6.1]
        intro h; have h := Option.some.inj h; subst h
        exact kx_iret hX hE ok_Model_stroke (nx := 42) rfl rfl ⟨Nat.le_of_ble_eq_true rfl, Nat.le_of_ble_eq_true rfl⟩
      · refine kx_go 1 (pc' := 43) (lv' := [.ref 88, .int x1, .int x2, .int x3, .null]) (st' := [.ref 88]) hX ok_Model_stroke rfl ?_
        refine kx_getp hX ok_Model_stroke rfl (q := 89) (nx := 46) rfl ?_
        refine kx_go 1 (pc' := 47) (lv' := [.ref 88, .int x1, .int x2, .int x3, .null]) (st' := [.int (0 : Int32), .ref 89]) hX ok_Model_stroke rfl ?_
        refine kx_ialdc hX ok_Model_stroke (w := 270) (nx := 48) rfl rfl (k := 0) rfl ?_
        refine kx_go 2 (pc' := if (I 89 0) = (8 : Int32) then 53 else 59) (lv' := [.ref 88, .int x1, .int x2, .int x3, .null]) (st' := []) hX ok_Model_stroke rfl ?_
        refine kx_ite (fun c7 => ?_) (fun c7 => ?_)
        · refine kx_go 2 (pc' := 55) (lv' := [.ref 88, .int x1, .int x2, .int x3, .null]) (st' := [.int (4 : Int32), .ref 88]) hX ok_Model_stroke rfl ?_
          refine kx_bind (fun p8 hp8 => ?_)
          refine kx_V (r := 88) (as := [.int (4 : Int32)]) (by decide) hX ok_Model_stroke (nx := 58) rfl l_Model_129 (by decide) rfl (fun _ => s_Model_finds (G := G) (d := 0) (Nat.le_refl _) C I (4 : Int32) p8 hp8) (by omega) rfl (rest := []) rfl (Nat.le_of_ble_eq_true rfl) ⟨Nat.le_of_ble_eq_true rfl, Nat.le_of_ble_eq_true rfl⟩ ?_
          show _ → kW G X m_Model_stroke C p8.2 0 0 58 [.ref 88, .int x1, .int x2, .int x3, .null] [.int p8.1]
          intro h; have h := Option.some.inj h; subst h
          exact kx_iret hX hE ok_Model_stroke (nx := 59) rfl rfl ⟨Nat.le_of_ble_eq_true rfl, Nat.le_of_ble_eq_true rfl⟩
        · refine kx_go 1 (pc' := 60) (lv' := [.ref 88, .int x1, .int x2, .int x3, .null]) (st' := [.ref 88]) hX ok_Model_stroke rfl ?_
          refine kx_getp hX ok_Model_stroke rfl (q := 89) (nx := 63) rfl ?_
          refine kx_go 1 (pc' := 64) (lv' := [.ref 88, .int x1, .int x2, .int x3, .null]) (st' := [.int (0 : Int32), .ref 89]) hX ok_Model_stroke rfl ?_
          refine kx_ialdc hX ok_Model_stroke (w := 270) (nx := 65) rfl rfl (k := 0) rfl ?_
          refine kx_go 6 (pc' := 74) (lv' := [.ref 88, .int x1, .int x2, .int x3, .int (I 89 0)]) (st' := [.int (10 : Int32), .int x1, .int (0 : Int32), .int (I 89 0), .ref 88]) hX ok_Model_stroke rfl ?_
          refine kx_idivc hX ok_Model_stroke (nx := 75) rfl (by decide) ?_
          refine kx_bind (fun p9 hp9 => ?_)
          refine kx_V (r := 88) (as := [.int (I 89 0), .int (0 : Int32), .int (x1 / (10 : Int32))]) (by decide) hX ok_Model_stroke (nx := 78) rfl l_Model_151 (by decide) rfl (fun _ => s_Model_becomes (G := G) (d := 0) (Nat.le_refl _) C I (I 89 0) (0 : Int32) (x1 / (10 : Int32)) p9 hp9) (by omega) rfl (rest := []) rfl (Nat.le_of_ble_eq_true rfl) ⟨Nat.le_of_ble_eq_true rfl, Nat.le_of_ble_eq_true rfl⟩ ?_
          show _ → kW G X m_Model_stroke C p9 0 0 78 [.ref 88, .int x1, .int x2, .int x3, .int (I 89 0)] []
          refine kx_go 5 (pc' := 85) (lv' := [.ref 88, .int x1, .int x2, .int x3, .int (I 89 0)]) (st' := [.int (10 : Int32), .int x1, .int (1 : Int32), .int (I 89 0), .ref 88]) hX ok_Model_stroke rfl ?_
          refine kx_iremc hX ok_Model_stroke (nx := 86) rfl (by decide) ?_
          refine kx_bind (fun p10 hp10 => ?_)
          refine kx_V (r := 88) (as := [.int (I 89 0), .int (1 : Int32), .int (x1 - x1 / (10 : Int32) * (10 : Int32))]) (by decide) hX ok_Model_stroke (nx := 89) rfl l_Model_151 (by decide) rfl (fun _ => s_Model_becomes (G := G) (d := 0) (Nat.le_refl _) C p9 (I 89 0) (1 : Int32) (x1 - x1 / (10 : Int32) * (10 : Int32)) p10 hp10) (by omega) rfl (rest := []) rfl (Nat.le_of_ble_eq_true rfl) ⟨Nat.le_of_ble_eq_true rfl, Nat.le_of_ble_eq_true rfl⟩ ?_
          show _ → kW G X m_Model_stroke C p10 0 0 89 [.ref 88, .int x1, .int x2, .int x3, .int (I 89 0)] []
          refine kx_go 4 (pc' := 94) (lv' := [.ref 88, .int x1, .int x2, .int x3, .int (I 89 0)]) (st' := [.int x2, .int (2 : Int32), .int (I 89 0), .ref 88]) hX ok_Model_stroke rfl ?_
          refine kx_bind (fun p11 hp11 => ?_)
          refine kx_V (r := 88) (as := [.int (I 89 0), .int (2 : Int32), .int x2]) (by decide) hX ok_Model_stroke (nx := 97) rfl l_Model_151 (by decide) rfl (fun _ => s_Model_becomes (G := G) (d := 0) (Nat.le_refl _) C p10 (I 89 0) (2 : Int32) x2 p11 hp11) (by omega) rfl (rest := []) rfl (Nat.le_of_ble_eq_true rfl) ⟨Nat.le_of_ble_eq_true rfl, Nat.le_of_ble_eq_true rfl⟩ ?_
          show _ → kW G X m_Model_stroke C p11 0 0 97 [.ref 88, .int x1, .int x2, .int x3, .int (I 89 0)] []
          refine kx_go 4 (pc' := 102) (lv' := [.ref 88, .int x1, .int x2, .int x3, .int (I 89 0)]) (st' := [.int x3, .int (3 : Int32), .int (I 89 0), .ref 88]) hX ok_Model_stroke rfl ?_
          refine kx_bind (fun p12 hp12 => ?_)
          refine kx_V (r := 88) (as := [.int (I 89 0), .int (3 : Int32), .int x3]) (by decide) hX ok_Model_stroke (nx := 105) rfl l_Model_151 (by decide) rfl (fun _ => s_Model_becomes (G := G) (d := 0) (Nat.le_refl _) C p11 (I 89 0) (3 : Int32) x3 p12 hp12) (by omega) rfl (rest := []) rfl (Nat.le_of_ble_eq_true rfl) ⟨Nat.le_of_ble_eq_true rfl, Nat.le_of_ble_eq_true rfl⟩ ?_
          show _ → kW G X m_Model_stroke C p12 0 0 105 [.ref 88, .int x1, .int x2, .int x3, .int (I 89 0)] []
          refine kx_go 4 (pc' := 110) (lv' := [.ref 88, .int x1, .int x2, .int x3, .int (I 89 0)]) (st' := [.int (0 : Int32), .int (4 : Int32), .int (I 89 0), .ref 88]) hX ok_Model_stroke rfl ?_
          refine kx_bind (fun p13 hp13 => ?_)
          refine kx_V (r := 88) (as := [.int (I 89 0), .int (4 : Int32), .int (0 : Int32)]) (by decide) hX ok_Model_stroke (nx := 113) rfl l_Model_151 (by decide) rfl (fun _ => s_Model_becomes (G := G) (d := 0) (Nat.le_refl _) C p12 (I 89 0) (4 : Int32) (0 : Int32) p13 hp13) (by omega) rfl (rest := []) rfl (Nat.le_of_ble_eq_true rfl) ⟨Nat.le_of_ble_eq_true rfl, Nat.le_of_ble_eq_true rfl⟩ ?_
          show _ → kW G X m_Model_stroke C p13 0 0 113 [.ref 88, .int x1, .int x2, .int x3, .int (I 89 0)] []
          refine kx_go 4 (pc' := 120) (lv' := [.ref 88, .int x1, .int x2, .int x3, .int (I 89 0)]) (st' := [.int (9999 : Int32), .int (5 : Int32), .int (I 89 0), .ref 88]) hX ok_Model_stroke rfl ?_
          refine kx_bind (fun p14 hp14 => ?_)
          refine kx_V (r := 88) (as := [.int (I 89 0), .int (5 : Int32), .int (9999 : Int32)]) (by decide) hX ok_Model_stroke (nx := 123) rfl l_Model_151 (by decide) rfl (fun _ => s_Model_becomes (G := G) (d := 0) (Nat.le_refl _) C p13 (I 89 0) (5 : Int32) (9999 : Int32) p14 hp14) (by omega) rfl (rest := []) rfl (Nat.le_of_ble_eq_true rfl) ⟨Nat.le_of_ble_eq_true rfl, Nat.le_of_ble_eq_true rfl⟩ ?_
          show _ → kW G X m_Model_stroke C p14 0 0 123 [.ref 88, .int x1, .int x2, .int x3, .int (I 89 0)] []
          refine kx_go 4 (pc' := 129) (lv' := [.ref 88, .int x1, .int x2, .int x3, .int (I 89 0)]) (st' := [.int (0 : Int32), .int (6 : Int32), .int (I 89 0), .ref 88]) hX ok_Model_stroke rfl ?_
          refine kx_bind (fun p15 hp15 => ?_)
          refine kx_V (r := 88) (as := [.int (I 89 0), .int (6 : Int32), .int (0 : Int32)]) (by decide) hX ok_Model_stroke (nx := 132) rfl l_Model_151 (by decide) rfl (fun _ => s_Model_becomes (G := G) (d := 0) (Nat.le_refl _) C p14 (I 89 0) (6 : Int32) (0 : Int32) p15 hp15) (by omega) rfl (rest := []) rfl (Nat.le_of_ble_eq_true rfl) ⟨Nat.le_of_ble_eq_true rfl, Nat.le_of_ble_eq_true rfl⟩ ?_
          show _ → kW G X m_Model_stroke C p15 0 0 132 [.ref 88, .int x1, .int x2, .int x3, .int (I 89 0)] []
          refine kx_go 1 (pc' := 133) (lv' := [.ref 88, .int x1, .int x2, .int x3, .int (I 89 0)]) (st' := [.ref 88]) hX ok_Model_stroke rfl ?_
          refine kx_getp hX ok_Model_stroke rfl (q := 89) (nx := 136) rfl ?_
          refine kx_go 2 (pc' := 138) (lv' := [.ref 88, .int x1, .int x2, .int x3, .int (I 89 0)]) (st' := [.int (0 : Int32), .ref 89, .int (0 : Int32), .ref 89]) hX ok_Model_stroke rfl ?_
          refine kx_ialdc hX ok_Model_stroke (w := 270) (nx := 139) rfl rfl (k := 0) rfl ?_
          refine kx_go 2 (pc' := 141) (lv' := [.ref 88, .int x1, .int x2, .int x3, .int (I 89 0)]) (st' := [.int ((p15 89 0) + (1 : Int32)), .int (0 : Int32), .ref 89]) hX ok_Model_stroke rfl ?_
          refine kx_iastc hX ok_Model_stroke (w := 270) (nx := 142) rfl rfl (k := 0) rfl ?_
          refine kx_lt (Q := fun J16 => kW G X m_Model_stroke C J16 0 0 142 [.ref 88, .int x1, .int x2, .int x3, .int (I 89 0)] []) (fun J16 eJ16 => ?_)
          refine kx_go 1 (pc' := 144) (lv' := [.ref 88, .int x1, .int x2, .int x3, .int (I 89 0)]) (st' := [.int (I 89 0)]) hX ok_Model_stroke rfl ?_
          intro h; have h := Option.some.inj h; subst h
          exact kx_iret hX hE ok_Model_stroke (nx := 145) rfl rfl ⟨Nat.le_of_ble_eq_true rfl, Nat.le_of_ble_eq_true rfl⟩
def M_Model_isStroke (I : HI) (x1 : Int32) : Int32 := (M_Model_in (x1.toInt64) (Int64.ofNat 0) (((I 89 0) - (1 : Int32)).toInt64))
theorem s_Model_isStroke {G : xG} {d : Nat} (hd : 1 ≤ d) (C : HC) (I : HI) (x1 : Int32)  (r : Int32) : M_Model_isStroke I x1 = r → kM G d m_Model_isStroke [.ref 88, .int x1] C I 0 0 (some (.int r)) C I := by
  unfold M_Model_isStroke
  refine kM.of (by decide +kernel) (Nat.le_of_ble_eq_true rfl) (lv := [.ref 88, .int x1]) rfl (fun X hX hE => ?_)
  refine kx_go 4 (pc' := 4) (lv' := [.ref 88, .int x1]) (st' := [.ref 88, .long (Int64.ofNat 0), .long (x1.toInt64)]) hX ok_Model_isStroke rfl ?_
  refine kx_getp hX ok_Model_isStroke rfl (q := 89) (nx := 7) rfl ?_
  refine kx_go 1 (pc' := 8) (lv' := [.ref 88, .int x1]) (st' := [.int (0 : Int32), .ref 89, .long (Int64.ofNat 0), .long (x1.toInt64)]) hX ok_Model_isStroke rfl ?_
  refine kx_ialdc hX ok_Model_isStroke (w := 270) (nx := 9) rfl rfl (k := 0) rfl ?_
  refine kx_go 3 (pc' := 12) (lv' := [.ref 88, .int x1]) (st' := [.long (((I 89 0) - (1 : Int32)).toInt64), .long (Int64.ofNat 0), .long (x1.toInt64)]) hX ok_Model_isStroke rfl ?_
  refine kx_S (as := [.long (x1.toInt64), .long (Int64.ofNat 0), .long (((I 89 0) - (1 : Int32)).toInt64)]) hX ok_Model_isStroke (nx := 15) rfl l_Model_66 (fun _ => s_Model_in (G := G) (d := 0) (Nat.le_refl _) C I (x1.toInt64) (Int64.ofNat 0) (((I 89 0) - (1 : Int32)).toInt64) _ rfl) (by omega) rfl (rest := []) rfl (Nat.le_of_ble_eq_true rfl) ⟨Nat.le_of_ble_eq_true rfl, Nat.le_of_ble_eq_true rfl⟩ ?_
  show _ → kW G X m_Model_isStroke C I 0 0 15 [.ref 88, .int x1] [.int (M_Model_in (x1.toInt64) (Int64.ofNat 0) (((I 89 0) - (1 : Int32)).toInt64))]
  rintro rfl
  exact kx_zret hX hE ok_Model_isStroke (nx := 16) rfl rfl (b_Model_in ..) ⟨Nat.le_of_ble_eq_true rfl, Nat.le_of_ble_eq_true rfl⟩
def M_Model_held (x0 : Int32) (x1 : Int32) (x2 : Int32) : Int32 := if x1 ≤ x0 then (if x0 ≤ x2 then (x0) else (x2)) else (x1)
theorem s_Model_held {G : xG} {d : Nat} (hd : 0 ≤ d) (C : HC) (I : HI) (x0 : Int32) (x1 : Int32) (x2 : Int32)  (r : Int32) : M_Model_held x0 x1 x2 = r → kM G d m_Model_held [.int x0, .int x1, .int x2] C I 0 0 (some (.int r)) C I := by
  unfold M_Model_held
  refine kM.of (by decide +kernel) (Nat.le_of_ble_eq_true rfl) (lv := [.int x0, .int x1, .int x2]) rfl (fun X hX hE => ?_)
  refine kx_go 3 (pc' := if x1 ≤ x0 then 9 else 5) (lv' := [.int x0, .int x1, .int x2]) (st' := []) hX ok_Model_held rfl ?_
  refine kx_ite (fun c1 => ?_) (fun c1 => ?_)
  · refine kx_go 3 (pc' := if x0 ≤ x2 then 18 else 14) (lv' := [.int x0, .int x1, .int x2]) (st' := []) hX ok_Model_held rfl ?_
    refine kx_ite (fun c2 => ?_) (fun c2 => ?_)
    · refine kx_go 1 (pc' := 19) (lv' := [.int x0, .int x1, .int x2]) (st' := [.int x0]) hX ok_Model_held rfl ?_
      rintro rfl
      exact kx_iret hX hE ok_Model_held (nx := 20) rfl rfl ⟨Nat.le_of_ble_eq_true rfl, Nat.le_of_ble_eq_true rfl⟩
    · refine kx_go 2 (pc' := 19) (lv' := [.int x0, .int x1, .int x2]) (st' := [.int x2]) hX ok_Model_held rfl ?_
      rintro rfl
      exact kx_iret hX hE ok_Model_held (nx := 20) rfl rfl ⟨Nat.le_of_ble_eq_true rfl, Nat.le_of_ble_eq_true rfl⟩
  · refine kx_go 2 (pc' := 19) (lv' := [.int x0, .int x1, .int x2]) (st' := [.int x1]) hX ok_Model_held rfl ?_
    rintro rfl
    exact kx_iret hX hE ok_Model_held (nx := 20) rfl rfl ⟨Nat.le_of_ble_eq_true rfl, Nat.le_of_ble_eq_true rfl⟩
def M_Model_worked (I : HI) (x1 : Int32) (x2 : Int32) (x3 : Int32) : Option (Int32 × HI) := lt (xu I 88 4 x1) fun J1 => lt (xu J1 88 5 (0 : Int32)) fun J2 => lt (xu J2 88 6 x2) fun J3 => lt (xu J3 88 7 (-1 : Int32)) fun J4 => lt (xu J4 88 8 (0 : Int32)) fun J5 => if x3 = (1 : Int32) then (lt (xu J5 88 9 (1 : Int32)) fun J7 => Option.bind (M_Model_either (U_unit 7) J7) fun p8 => if (0 : Int32) ≤ (p8.2 88 7) then (some (p8.1, p8.2)) else (if (p8.2 88 6) ≤ (p8.2 88 5) then (some (p8.1, p8.2)) else (lt (M_Model_wrong p8.2) fun p11 => some (p11.1, p11.2)))) else (lt (xu J5 88 9 (0 : Int32)) fun J12 => Option.bind (M_Model_either (U_unit 7) J12) fun p13 => if (0 : Int32) ≤ (p13.2 88 7) then (some (p13.1, p13.2)) else (if (p13.2 88 6) ≤ (p13.2 88 5) then (some (p13.1, p13.2)) else (lt (M_Model_wrong p13.2) fun p16 => some (p16.1, p16.2))))
theorem s_Model_worked {G : xG} {d : Nat} (hd : 48 ≤ d) (C : HC) (I : HI) (x1 : Int32) (x2 : Int32) (x3 : Int32)  (r : Int32 × HI) : M_Model_worked I x1 x2 x3 = some r → kM G d m_Model_worked [.ref 88, .int x1, .int x2, .int x3] C I 0 0 (some (.int r.1)) C r.2 := by
  unfold M_Model_worked
  refine kM.of (by decide +kernel) (Nat.le_of_ble_eq_true rfl) (lv := [.ref 88, .int x1, .int x2, .int x3, .null]) rfl (fun X hX hE => ?_)
  refine kx_go 2 (pc' := 2) (lv' := [.ref 88, .int x1, .int x2, .int x3, .null]) (st' := [.int x1, .ref 88]) hX ok_Model_worked rfl ?_
  refine kx_puti hX ok_Model_worked rfl (k := 4) (nx := 5) rfl rfl ?_
  refine kx_lt (Q := fun J1 => kW G X m_Model_worked C J1 0 0 5 [.ref 88, .int x1, .int x2, .int x3, .null] []) (fun J1 eJ1 => ?_)
  refine kx_go 2 (pc' := 7) (lv' := [.ref 88, .int x1, .int x2, .int x3, .null]) (st' := [.int (0 : Int32), .ref 88]) hX ok_Model_worked rfl ?_
  refine kx_puti hX ok_Model_worked rfl (k := 5) (nx := 10) rfl rfl ?_
  refine kx_lt (Q := fun J2 => kW G X m_Model_worked C J2 0 0 10 [.ref 88, .int x1, .int x2, .int x3, .null] []) (fun J2 eJ2 => ?_)
  refine kx_go 2 (pc' := 12) (lv' := [.ref 88, .int x1, .int x2, .int x3, .null]) (st' := [.int x2, .ref 88]) hX ok_Model_worked rfl ?_
  refine kx_puti hX ok_Model_worked rfl (k := 6) (nx := 15) rfl rfl ?_
  refine kx_lt (Q := fun J3 => kW G X m_Model_worked C J3 0 0 15 [.ref 88, .int x1, .int x2, .int x3, .null] []) (fun J3 eJ3 => ?_)
  refine kx_go 2 (pc' := 17) (lv' := [.ref 88, .int x1, .int x2, .int x3, .null]) (st' := [.int (-1 : Int32), .ref 88]) hX ok_Model_worked rfl ?_
  refine kx_puti hX ok_Model_worked rfl (k := 7) (nx := 20) rfl rfl ?_
  refine kx_lt (Q := fun J4 => kW G X m_Model_worked C J4 0 0 20 [.ref 88, .int x1, .int x2, .int x3, .null] []) (fun J4 eJ4 => ?_)
  refine kx_go 2 (pc' := 22) (lv' := [.ref 88, .int x1, .int x2, .int x3, .null]) (st' := [.int (0 : Int32), .ref 88]) hX ok_Model_worked rfl ?_
  refine kx_puti hX ok_Model_worked rfl (k := 8) (nx := 25) rfl rfl ?_
  refine kx_lt (Q := fun J5 => kW G X m_Model_worked C J5 0 0 25 [.ref 88, .int x1, .int x2, .int x3, .null] []) (fun J5 eJ5 => ?_)
  refine kx_go 4 (pc' := if x3 = (1 : Int32) then 31 else 35) (lv' := [.ref 88, .int x1, .int x2, .int x3, .null]) (st' := [.ref 88]) hX ok_Model_worked rfl ?_
  refine kx_ite (fun c6 => ?_) (fun c6 => ?_)
  · refine kx_go 2 (pc' := 36) (lv' := [.ref 88, .int x1, .int x2, .int x3, .null]) (st' := [.int (1 : Int32), .ref 88]) hX ok_Model_worked rfl ?_
    refine kx_putz hX ok_Model_worked rfl (k := 9) (nx := 39) rfl rfl (Or.inr rfl) ?_
    refine kx_lt (Q := fun J7 => kW G X m_Model_worked C J7 0 0 39 [.ref 88, .int x1, .int x2, .int x3, .null] []) (fun J7 eJ7 => ?_)
    refine kx_go 1 (pc' := 40) (lv' := [.ref 88, .int x1, .int x2, .int x3, .null]) (st' := [.ref 88]) hX ok_Model_worked rfl ?_
    refine kx_bind (fun p8 hp8 => ?_)
    refine kx_V (r := 88) (as := []) (by decide) hX ok_Model_worked (nx := 43) rfl l_Model_116 (by decide) rfl (fun _ => s_Model_either (G := G) (d := 42 + 5) (Nat.le_refl _) (U_unit 7) C J7  (s_U_unit C 7) p8 hp8) (by omega) rfl (rest := []) rfl (Nat.le_of_ble_eq_true rfl) ⟨Nat.le_of_ble_eq_true rfl, Nat.le_of_ble_eq_true rfl⟩ ?_
    show _ → kW G X m_Model_worked C p8.2 0 0 43 [.ref 88, .int x1, .int x2, .int x3, .null] [.int p8.1]
    refine kx_go 2 (pc' := 46) (lv' := [.ref 88, .int x1, .int x2, .int x3, .int p8.1]) (st' := [.ref 88]) hX ok_Model_worked rfl ?_
    refine kx_geti hX ok_Model_worked rfl (k := 7) (nx := 49) rfl ?_
    refine kx_go 1 (pc' := if (0 : Int32) ≤ (p8.2 88 7) then 68 else 52) (lv' := [.ref 88, .int x1, .int x2, .int x3, .int p8.1]) (st' := []) hX ok_Model_worked rfl ?_
    refine kx_ite (fun c9 => ?_) (fun c9 => ?_)
    · refine kx_go 1 (pc' := 70) (lv' := [.ref 88, .int x1, .int x2, .int x3, .int p8.1]) (st' := [.int p8.1]) hX ok_Model_worked rfl ?_
      intro h; have h := Option.some.inj h; subst h
      exact kx_iret hX hE ok_Model_worked (nx := 71) rfl rfl ⟨Nat.le_of_ble_eq_true rfl, Nat.le_of_ble_eq_true rfl⟩
    · refine kx_go 1 (pc' := 53) (lv' := [.ref 88, .int x1, .int x2, .int x3, .int p8.1]) (st' := [.ref 88]) hX ok_Model_worked rfl ?_
      refine kx_geti hX ok_Model_worked rfl (k := 5) (nx := 56) rfl ?_
      refine kx_go 1 (pc' := 57) (lv' := [.ref 88, .int x1, .int x2, .int x3, .int p8.1]) (st' := [.ref 88, .int (p8.2 88 5)]) hX ok_Model_worked rfl ?_
      refine kx_geti hX ok_Model_worked rfl (k := 6) (nx := 60) rfl ?_
      refine kx_go 1 (pc' := if (p8.2 88 6) ≤ (p8.2 88 5) then 68 else 63) (lv' := [.ref 88, .int x1, .int x2, .int x3, .int p8.1]) (st' := []) hX ok_Model_worked rfl ?_
      refine kx_ite (fun c10 => ?_) (fun c10 => ?_)
      · refine kx_go 1 (pc' := 70) (lv' := [.ref 88, .int x1, .int x2, .int x3, .int p8.1]) (st' := [.int p8.1]) hX ok_Model_worked rfl ?_
        intro h; have h := Option.some.inj h; subst h
        exact kx_iret hX hE ok_Model_worked (nx := 71) rfl rfl ⟨Nat.le_of_ble_eq_true rfl, Nat.le_of_ble_eq_true rfl⟩
      · refine kx_go 1 (pc' := 64) (lv' := [.ref 88, .int x1, .int x2, .int x3, .int p8.1]) (st' := [.ref 88]) hX ok_Model_worked rfl ?_
        refine kx_lti (fun p11 hp11 => ?_)
        refine kx_V (r := 88) (as := []) (by decide) hX ok_Model_worked (nx := 67) rfl l_Model_113 (by decide) rfl (fun _ => s_Model_wrong (G := G) (d := 0) (Nat.le_refl _) C p8.2  p11 hp11) (by omega) rfl (rest := []) rfl (Nat.le_of_ble_eq_true rfl) ⟨Nat.le_of_ble_eq_true rfl, Nat.le_of_ble_eq_true rfl⟩ ?_
        show _ → kW G X m_Model_worked C p11.2 0 0 67 [.ref 88, .int x1, .int x2, .int x3, .int p8.1] [.int p11.1]
        intro h; have h := Option.some.inj h; subst h
        exact kx_iret hX hE ok_Model_worked (nx := 68) rfl rfl ⟨Nat.le_of_ble_eq_true rfl, Nat.le_of_ble_eq_true rfl⟩
  · refine kx_go 1 (pc' := 36) (lv' := [.ref 88, .int x1, .int x2, .int x3, .null]) (st' := [.int (0 : Int32), .ref 88]) hX ok_Model_worked rfl ?_
    refine kx_putz hX ok_Model_worked rfl (k := 9) (nx := 39) rfl rfl (Or.inl rfl) ?_
    refine kx_lt (Q := fun J12 => kW G X m_Model_worked C J12 0 0 39 [.ref 88, .int x1, .int x2, .int x3, .null] []) (fun J12 eJ12 => ?_)
    refine kx_go 1 (pc' := 40) (lv' := [.ref 88, .int x1, .int x2, .int x3, .null]) (st' := [.ref 88]) hX ok_Model_worked rfl ?_
    refine kx_bind (fun p13 hp13 => ?_)
    refine kx_V (r := 88) (as := []) (by decide) hX ok_Model_worked (nx := 43) rfl l_Model_116 (by decide) rfl (fun _ => s_Model_either (G := G) (d := 42 + 5) (Nat.le_refl _) (U_unit 7) C J12  (s_U_unit C 7) p13 hp13) (by omega) rfl (rest := []) rfl (Nat.le_of_ble_eq_true rfl) ⟨Nat.le_of_ble_eq_true rfl, Nat.le_of_ble_eq_true rfl⟩ ?_
    show _ → kW G X m_Model_worked C p13.2 0 0 43 [.ref 88, .int x1, .int x2, .int x3, .null] [.int p13.1]
    refine kx_go 2 (pc' := 46) (lv' := [.ref 88, .int x1, .int x2, .int x3, .int p13.1]) (st' := [.ref 88]) hX ok_Model_worked rfl ?_
    refine kx_geti hX ok_Model_worked rfl (k := 7) (nx := 49) rfl ?_
    refine kx_go 1 (pc' := if (0 : Int32) ≤ (p13.2 88 7) then 68 else 52) (lv' := [.ref 88, .int x1, .int x2, .int x3, .int p13.1]) (st' := []) hX ok_Model_worked rfl ?_
    refine kx_ite (fun c14 => ?_) (fun c14 => ?_)
    · refine kx_go 1 (pc' := 70) (lv' := [.ref 88, .int x1, .int x2, .int x3, .int p13.1]) (st' := [.int p13.1]) hX ok_Model_worked rfl ?_
      intro h; have h := Option.some.inj h; subst h
      exact kx_iret hX hE ok_Model_worked (nx := 71) rfl rfl ⟨Nat.le_of_ble_eq_true rfl, Nat.le_of_ble_eq_true rfl⟩
    · refine kx_go 1 (pc' := 53) (lv' := [.ref 88, .int x1, .int x2, .int x3, .int p13.1]) (st' := [.ref 88]) hX ok_Model_worked rfl ?_
      refine kx_geti hX ok_Model_worked rfl (k := 5) (nx := 56) rfl ?_
      refine kx_go 1 (pc' := 57) (lv' := [.ref 88, .int x1, .int x2, .int x3, .int p13.1]) (st' := [.ref 88, .int (p13.2 88 5)]) hX ok_Model_worked rfl ?_
      refine kx_geti hX ok_Model_worked rfl (k := 6) (nx := 60) rfl ?_
      refine kx_go 1 (pc' := if (p13.2 88 6) ≤ (p13.2 88 5) then 68 else 63) (lv' := [.ref 88, .int x1, .int x2, .int x3, .int p13.1]) (st' := []) hX ok_Model_worked rfl ?_
      refine kx_ite (fun c15 => ?_) (fun c15 => ?_)
      · refine kx_go 1 (pc' := 70) (lv' := [.ref 88, .int x1, .int x2, .int x3, .int p13.1]) (st' := [.int p13.1]) hX ok_Model_worked rfl ?_
        intro h; have h := Option.some.inj h; subst h
        exact kx_iret hX hE ok_Model_worked (nx := 71) rfl rfl ⟨Nat.le_of_ble_eq_true rfl, Nat.le_of_ble_eq_true rfl⟩
      · refine kx_go 1 (pc' := 64) (lv' := [.ref 88, .int x1, .int x2, .int x3, .int p13.1]) (st' := [.ref 88]) hX ok_Model_worked rfl ?_
        refine kx_lti (fun p16 hp16 => ?_)
        refine kx_V (r := 88) (as := []) (by decide) hX ok_Model_worked (nx := 67) rfl l_Model_113 (by decide) rfl (fun _ => s_Model_wrong (G := G) (d := 0) (Nat.le_refl _) C p13.2  p16 hp16) (by omega) rfl (rest := []) rfl (Nat.le_of_ble_eq_true rfl) ⟨Nat.le_of_ble_eq_true rfl, Nat.le_of_ble_eq_true rfl⟩ ?_
        show _ → kW G X m_Model_worked C p16.2 0 0 67 [.ref 88, .int x1, .int x2, .int x3, .int p13.1] [.int p16.1]
        intro h; have h := Option.some.inj h; subst h
        exact kx_iret hX hE ok_Model_worked (nx := 68) rfl rfl ⟨Nat.le_of_ble_eq_true rfl, Nat.le_of_ble_eq_true rfl⟩
def M_Model_gives (I : HI) (x1 : Int32) (x2 : Int32) (x3 : Int32) (x4 : Int32) (x5 : Int32) : Option (Int32 × HI) := if x1 = (0 : Int32) then (grd (bnd ((97 : Int32) + x1) 270) (if (I 89 ((97 : Int32) + x1).toNatClampNeg) ≤ (0 : Int32) then (some ((M_Model_held (0 : Int32) (-999 : Int32) (999 : Int32)), I)) else (lt (xu I 92 0 x2) fun J4 => lt (xu J4 92 1 x3) fun J5 => lt (xu J5 92 2 x4) fun J6 => lt (xu J6 92 3 x5) fun J7 => Option.bind (M_Model_worked J7 ((119 : Int32) + ((50 : Int32) * x1)) (J7 89 ((97 : Int32) + x1).toNatClampNeg) x1) fun p8 => some ((M_Model_held p8.1 (-999 : Int32) (999 : Int32)), p8.2)))) else (grd (bnd ((97 : Int32) + x1) 270) (if (I 89 ((97 : Int32) + x1).toNatClampNeg) ≤ (0 : Int32) then (some ((M_Model_held x2 (0 : Int32) (999 : Int32)), I)) else (lt (xu I 92 0 x2) fun J11 => lt (xu J11 92 1 x3) fun J12 => lt (xu J12 92 2 x4) fun J13 => lt (xu J13 92 3 x5) fun J14 => Option.bind (M_Model_worked J14 ((119 : Int32) + ((50 : Int32) * x1)) (J14 89 ((97 : Int32) + x1).toNatClampNeg) x1) fun p15 => some ((M_Model_held p15.1 (0 : Int32) (999 : Int32)), p15.2))))
theorem s_Model_gives {G : xG} {d : Nat} (hd : 49 ≤ d) (C : HC) (I : HI) (x1 : Int32) (x2 : Int32) (x3 : Int32) (x4 : Int32) (x5 : Int32)  (r : Int32 × HI) : M_Model_gives I x1 x2 x3 x4 x5 = some r → kM G d m_Model_gives [.ref 88, .int x1, .int x2, .int x3, .int x4, .int x5] C I 0 0 (some (.int r.1)) C r.2 := by
  unfold M_Model_gives
  refine kM.of (by decide +kernel) (Nat.le_of_ble_eq_true rfl) (lv := [.ref 88, .int x1, .int x2, .int x3, .int x4, .int x5, .null]) rfl (fun X hX hE => ?_)
  refine kx_go 2 (pc' := if x1 = (0 : Int32) then 4 else 8) (lv' := [.ref 88, .int x1, .int x2, .int x3, .int x4, .int x5, .null]) (st' := []) hX ok_Model_gives rfl ?_
  refine kx_ite (fun c1 => ?_) (fun c1 => ?_)
  · refine kx_go 4 (pc' := 12) (lv' := [.ref 88, .int x1, .int x2, .int x3, .int x4, .int x5, .int (0 : Int32)]) (st' := [.ref 88]) hX ok_Model_gives rfl ?_
    refine kx_getp hX ok_Model_gives rfl (q := 89) (nx := 15) rfl ?_
    refine kx_go 3 (pc' := 19) (lv' := [.ref 88, .int x1, .int x2, .int x3, .int x4, .int x5, .int (0 : Int32)]) (st' := [.int ((97 : Int32) + x1), .ref 89]) hX ok_Model_gives rfl ?_
    refine kx_iald hX ok_Model_gives (w := 270) (nx := 20) rfl (fun b2 => ?_)
    refine kx_go 1 (pc' := if (I 89 ((97 : Int32) + x1).toNatClampNeg) ≤ (0 : Int32) then 76 else 23) (lv' := [.ref 88, .int x1, .int x2, .int x3, .int x4, .int x5, .int (0 : Int32)]) (st' := []) hX ok_Model_gives rfl ?_
    refine kx_ite (fun c3 => ?_) (fun c3 => ?_)
    · refine kx_go 2 (pc' := if x1 = (0 : Int32) then 80 else 94) (lv' := [.ref 88, .int x1, .int x2, .int x3, .int x4, .int x5, .int (0 : Int32)]) (st' := []) hX ok_Model_gives rfl ?_
      refine kx_yes c1 ?_
      refine kx_go 3 (pc' := 88) (lv' := [.ref 88, .int x1, .int x2, .int x3, .int x4, .int x5, .int (0 : Int32)]) (st' := [.int (999 : Int32), .int (-999 : Int32), .int (0 : Int32)]) hX ok_Model_gives rfl ?_
      refine kx_S (as := [.int (0 : Int32), .int (-999 : Int32), .int (999 : Int32)]) hX ok_Model_gives (nx := 91) rfl l_Model_138 (fun _ => s_Model_held (G := G) (d := 0) (Nat.le_refl _) C I (0 : Int32) (-999 : Int32) (999 : Int32) _ rfl) (by omega) rfl (rest := []) rfl (Nat.le_of_ble_eq_true rfl) ⟨Nat.le_of_ble_eq_true rfl, Nat.le_of_ble_eq_true rfl⟩ ?_
      show _ → kW G X m_Model_gives C I 0 0 91 [.ref 88, .int x1, .int x2, .int x3, .int x4, .int x5, .int (0 : Int32)] [.int (M_Model_held (0 : Int32) (-999 : Int32) (999 : Int32))]
      refine kx_go 1 (pc' := 103) (lv' := [.ref 88, .int x1, .int x2, .int x3, .int x4, .int x5, .int (0 : Int32)]) (st' := [.int (M_Model_held (0 : Int32) (-999 : Int32) (999 : Int32))]) hX ok_Model_gives rfl ?_
      intro h; have h := Option.some.inj h; subst h
      exact kx_iret hX hE ok_Model_gives (nx := 104) rfl rfl ⟨Nat.le_of_ble_eq_true rfl, Nat.le_of_ble_eq_true rfl⟩
    · refine kx_go 1 (pc' := 24) (lv' := [.ref 88, .int x1, .int x2, .int x3, .int x4, .int x5, .int (0 : Int32)]) (st' := [.ref 88]) hX ok_Model_gives rfl ?_
      refine kx_getp hX ok_Model_gives rfl (q := 92) (nx := 27) rfl ?_
      refine kx_go 2 (pc' := 29) (lv' := [.ref 88, .int x1, .int x2, .int x3, .int x4, .int x5, .int (0 : Int32)]) (st' := [.int x2, .int (0 : Int32), .ref 92]) hX ok_Model_gives rfl ?_
      refine kx_iastc hX ok_Model_gives (w := 4) (nx := 30) rfl rfl (k := 0) rfl ?_
      refine kx_lt (Q := fun J4 => kW G X m_Model_gives C J4 0 0 30 [.ref 88, .int x1, .int x2, .int x3, .int x4, .int x5, .int (0 : Int32)] []) (fun J4 eJ4 => ?_)
      refine kx_go 1 (pc' := 31) (lv' := [.ref 88, .int x1, .int x2, .int x3, .int x4, .int x5, .int (0 : Int32)]) (st' := [.ref 88]) hX ok_Model_gives rfl ?_
      refine kx_getp hX ok_Model_gives rfl (q := 92) (nx := 34) rfl ?_
      refine kx_go 2 (pc' := 36) (lv' := [.ref 88, .int x1, .int x2, .int x3, .int x4, .int x5, .int (0 : Int32)]) (st' := [.int x3, .int (1 : Int32), .ref 92]) hX ok_Model_gives rfl ?_
      refine kx_iastc hX ok_Model_gives (w := 4) (nx := 37) rfl rfl (k := 1) rfl ?_
      refine kx_lt (Q := fun J5 => kW G X m_Model_gives C J5 0 0 37 [.ref 88, .int x1, .int x2, .int x3, .int x4, .int x5, .int (0 : Int32)] []) (fun J5 eJ5 => ?_)
      refine kx_go 1 (pc' := 38) (lv' := [.ref 88, .int x1, .int x2, .int x3, .int x4, .int x5, .int (0 : Int32)]) (st' := [.ref 88]) hX ok_Model_gives rfl ?_
      refine kx_getp hX ok_Model_gives rfl (q := 92) (nx := 41) rfl ?_
      refine kx_go 2 (pc' := 44) (lv' := [.ref 88, .int x1, .int x2, .int x3, .int x4, .int x5, .int (0 : Int32)]) (st' := [.int x4, .int (2 : Int32), .ref 92]) hX ok_Model_gives rfl ?_
      refine kx_iastc hX ok_Model_gives (w := 4) (nx := 45) rfl rfl (k := 2) rfl ?_
      refine kx_lt (Q := fun J6 => kW G X m_Model_gives C J6 0 0 45 [.ref 88, .int x1, .int x2, .int x3, .int x4, .int x5, .int (0 : Int32)] []) (fun J6 eJ6 => ?_)
      refine kx_go 1 (pc' := 46) (lv' := [.ref 88, .int x1, .int x2, .int x3, .int x4, .int x5, .int (0 : Int32)]) (st' := [.ref 88]) hX ok_Model_gives rfl ?_
      refine kx_getp hX ok_Model_gives rfl (q := 92) (nx := 49) rfl ?_
      refine kx_go 2 (pc' := 52) (lv' := [.ref 88, .int x1, .int x2, .int x3, .int x4, .int x5, .int (0 : Int32)]) (st' := [.int x5, .int (3 : Int32), .ref 92]) hX ok_Model_gives rfl ?_
      refine kx_iastc hX ok_Model_gives (w := 4) (nx := 53) rfl rfl (k := 3) rfl ?_
      refine kx_lt (Q := fun J7 => kW G X m_Model_gives C J7 0 0 53 [.ref 88, .int x1, .int x2, .int x3, .int x4, .int x5, .int (0 : Int32)] []) (fun J7 eJ7 => ?_)
      refine kx_go 7 (pc' := 62) (lv' := [.ref 88, .int x1, .int x2, .int x3, .int x4, .int x5, .int (0 : Int32)]) (st' := [.ref 88, .int ((119 : Int32) + ((50 : Int32) * x1)), .ref 88]) hX ok_Model_gives rfl ?_
      refine kx_getp hX ok_Model_gives rfl (q := 89) (nx := 65) rfl ?_
      refine kx_go 3 (pc' := 69) (lv' := [.ref 88, .int x1, .int x2, .int x3, .int x4, .int x5, .int (0 : Int32)]) (st' := [.int ((97 : Int32) + x1), .ref 89, .int ((119 : Int32) + ((50 : Int32) * x1)), .ref 88]) hX ok_Model_gives rfl ?_
      refine kx_ialdc hX ok_Model_gives (w := 270) (nx := 70) rfl b2 (k := ((97 : Int32) + x1).toNatClampNeg) rfl ?_
      refine kx_go 1 (pc' := 71) (lv' := [.ref 88, .int x1, .int x2, .int x3, .int x4, .int x5, .int (0 : Int32)]) (st' := [.int x1, .int (J7 89 ((97 : Int32) + x1).toNatClampNeg), .int ((119 : Int32) + ((50 : Int32) * x1)), .ref 88]) hX ok_Model_gives rfl ?_
      refine kx_bind (fun p8 hp8 => ?_)
      refine kx_V (r := 88) (as := [.int ((119 : Int32) + ((50 : Int32) * x1)), .int (J7 89 ((97 : Int32) + x1).toNatClampNeg), .int x1]) (by decide) hX ok_Model_gives (nx := 74) rfl l_Model_134 (by decide) rfl (fun _ => s_Model_worked (G := G) (d := 48) (Nat.le_refl _) C J7 ((119 : Int32) + ((50 : Int32) * x1)) (J7 89 ((97 : Int32) + x1).toNatClampNeg) x1 p8 hp8) (by omega) rfl (rest := []) rfl (Nat.le_of_ble_eq_true rfl) ⟨Nat.le_of_ble_eq_true rfl, Nat.le_of_ble_eq_true rfl⟩ ?_
      show _ → kW G X m_Model_gives C p8.2 0 0 74 [.ref 88, .int x1, .int x2, .int x3, .int x4, .int x5, .int (0 : Int32)] [.int p8.1]
      refine kx_go 3 (pc' := if x1 = (0 : Int32) then 80 else 94) (lv' := [.ref 88, .int x1, .int x2, .int x3, .int x4, .int x5, .int p8.1]) (st' := []) hX ok_Model_gives rfl ?_
      refine kx_yes c1 ?_
      refine kx_go 3 (pc' := 88) (lv' := [.ref 88, .int x1, .int x2, .int x3, .int x4, .int x5, .int p8.1]) (st' := [.int (999 : Int32), .int (-999 : Int32), .int p8.1]) hX ok_Model_gives rfl ?_
      refine kx_S (as := [.int p8.1, .int (-999 : Int32), .int (999 : Int32)]) hX ok_Model_gives (nx := 91) rfl l_Model_138 (fun _ => s_Model_held (G := G) (d := 0) (Nat.le_refl _) C p8.2 p8.1 (-999 : Int32) (999 : Int32) _ rfl) (by omega) rfl (rest := []) rfl (Nat.le_of_ble_eq_true rfl) ⟨Nat.le_of_ble_eq_true rfl, Nat.le_of_ble_eq_true rfl⟩ ?_
      show _ → kW G X m_Model_gives C p8.2 0 0 91 [.ref 88, .int x1, .int x2, .int x3, .int x4, .int x5, .int p8.1] [.int (M_Model_held p8.1 (-999 : Int32) (999 : Int32))]
      refine kx_go 1 (pc' := 103) (lv' := [.ref 88, .int x1, .int x2, .int x3, .int x4, .int x5, .int p8.1]) (st' := [.int (M_Model_held p8.1 (-999 : Int32) (999 : Int32))]) hX ok_Model_gives rfl ?_
      intro h; have h := Option.some.inj h; subst h
      exact kx_iret hX hE ok_Model_gives (nx := 104) rfl rfl ⟨Nat.le_of_ble_eq_true rfl, Nat.le_of_ble_eq_true rfl⟩
  · refine kx_go 3 (pc' := 12) (lv' := [.ref 88, .int x1, .int x2, .int x3, .int x4, .int x5, .int x2]) (st' := [.ref 88]) hX ok_Model_gives rfl ?_
    refine kx_getp hX ok_Model_gives rfl (q := 89) (nx := 15) rfl ?_
    refine kx_go 3 (pc' := 19) (lv' := [.ref 88, .int x1, .int x2, .int x3, .int x4, .int x5, .int x2]) (st' := [.int ((97 : Int32) + x1), .ref 89]) hX ok_Model_gives rfl ?_
    refine kx_iald hX ok_Model_gives (w := 270) (nx := 20) rfl (fun b9 => ?_)
    refine kx_go 1 (pc' := if (I 89 ((97 : Int32) + x1).toNatClampNeg) ≤ (0 : Int32) then 76 else 23) (lv' := [.ref 88, .int x1, .int x2, .int x3, .int x4, .int x5, .int x2]) (st' := []) hX ok_Model_gives rfl ?_
    refine kx_ite (fun c10 => ?_) (fun c10 => ?_)
    · refine kx_go 2 (pc' := if x1 = (0 : Int32) then 80 else 94) (lv' := [.ref 88, .int x1, .int x2, .int x3, .int x4, .int x5, .int x2]) (st' := []) hX ok_Model_gives rfl ?_
      refine kx_no c1 ?_
      refine kx_go 3 (pc' := 100) (lv' := [.ref 88, .int x1, .int x2, .int x3, .int x4, .int x5, .int x2]) (st' := [.int (999 : Int32), .int (0 : Int32), .int x2]) hX ok_Model_gives rfl ?_
      refine kx_S (as := [.int x2, .int (0 : Int32), .int (999 : Int32)]) hX ok_Model_gives (nx := 103) rfl l_Model_138 (fun _ => s_Model_held (G := G) (d := 0) (Nat.le_refl _) C I x2 (0 : Int32) (999 : Int32) _ rfl) (by omega) rfl (rest := []) rfl (Nat.le_of_ble_eq_true rfl) ⟨Nat.le_of_ble_eq_true rfl, Nat.le_of_ble_eq_true rfl⟩ ?_
      show _ → kW G X m_Model_gives C I 0 0 103 [.ref 88, .int x1, .int x2, .int x3, .int x4, .int x5, .int x2] [.int (M_Model_held x2 (0 : Int32) (999 : Int32))]
      intro h; have h := Option.some.inj h; subst h
      exact kx_iret hX hE ok_Model_gives (nx := 104) rfl rfl ⟨Nat.le_of_ble_eq_true rfl, Nat.le_of_ble_eq_true rfl⟩
    · refine kx_go 1 (pc' := 24) (lv' := [.ref 88, .int x1, .int x2, .int x3, .int x4, .int x5, .int x2]) (st' := [.ref 88]) hX ok_Model_gives rfl ?_
      refine kx_getp hX ok_Model_gives rfl (q := 92) (nx := 27) rfl ?_
      refine kx_go 2 (pc' := 29) (lv' := [.ref 88, .int x1, .int x2, .int x3, .int x4, .int x5, .int x2]) (st' := [.int x2, .int (0 : Int32), .ref 92]) hX ok_Model_gives rfl ?_
      refine kx_iastc hX ok_Model_gives (w := 4) (nx := 30) rfl rfl (k := 0) rfl ?_
      refine kx_lt (Q := fun J11 => kW G X m_Model_gives C J11 0 0 30 [.ref 88, .int x1, .int x2, .int x3, .int x4, .int x5, .int x2] []) (fun J11 eJ11 => ?_)
      refine kx_go 1 (pc' := 31) (lv' := [.ref 88, .int x1, .int x2, .int x3, .int x4, .int x5, .int x2]) (st' := [.ref 88]) hX ok_Model_gives rfl ?_
      refine kx_getp hX ok_Model_gives rfl (q := 92) (nx := 34) rfl ?_
      refine kx_go 2 (pc' := 36) (lv' := [.ref 88, .int x1, .int x2, .int x3, .int x4, .int x5, .int x2]) (st' := [.int x3, .int (1 : Int32), .ref 92]) hX ok_Model_gives rfl ?_
      refine kx_iastc hX ok_Model_gives (w := 4) (nx := 37) rfl rfl (k := 1) rfl ?_
      refine kx_lt (Q := fun J12 => kW G X m_Model_gives C J12 0 0 37 [.ref 88, .int x1, .int x2, .int x3, .int x4, .int x5, .int x2] []) (fun J12 eJ12 => ?_)
      refine kx_go 1 (pc' := 38) (lv' := [.ref 88, .int x1, .int x2, .int x3, .int x4, .int x5, .int x2]) (st' := [.ref 88]) hX ok_Model_gives rfl ?_
      refine kx_getp hX ok_Model_gives rfl (q := 92) (nx := 41) rfl ?_
      refine kx_go 2 (pc' := 44) (lv' := [.ref 88, .int x1, .int x2, .int x3, .int x4, .int x5, .int x2]) (st' := [.int x4, .int (2 : Int32), .ref 92]) hX ok_Model_gives rfl ?_
      refine kx_iastc hX ok_Model_gives (w := 4) (nx := 45) rfl rfl (k := 2) rfl ?_
      refine kx_lt (Q := fun J13 => kW G X m_Model_gives C J13 0 0 45 [.ref 88, .int x1, .int x2, .int x3, .int x4, .int x5, .int x2] []) (fun J13 eJ13 => ?_)
      refine kx_go 1 (pc' := 46) (lv' := [.ref 88, .int x1, .int x2, .int x3, .int x4, .int x5, .int x2]) (st' := [.ref 88]) hX ok_Model_gives rfl ?_
      refine kx_getp hX ok_Model_gives rfl (q := 92) (nx := 49) rfl ?_
      refine kx_go 2 (pc' := 52) (lv' := [.ref 88, .int x1, .int x2, .int x3, .int x4, .int x5, .int x2]) (st' := [.int x5, .int (3 : Int32), .ref 92]) hX ok_Model_gives rfl ?_
      refine kx_iastc hX ok_Model_gives (w := 4) (nx := 53) rfl rfl (k := 3) rfl ?_
      refine kx_lt (Q := fun J14 => kW G X m_Model_gives C J14 0 0 53 [.ref 88, .int x1, .int x2, .int x3, .int x4, .int x5, .int x2] []) (fun J14 eJ14 => ?_)
      refine kx_go 7 (pc' := 62) (lv' := [.ref 88, .int x1, .int x2, .int x3, .int x4, .int x5, .int x2]) (st' := [.ref 88, .int ((119 : Int32) + ((50 : Int32) * x1)), .ref 88]) hX ok_Model_gives rfl ?_
      refine kx_getp hX ok_Model_gives rfl (q := 89) (nx := 65) rfl ?_
      refine kx_go 3 (pc' := 69) (lv' := [.ref 88, .int x1, .int x2, .int x3, .int x4, .int x5, .int x2]) (st' := [.int ((97 : Int32) + x1), .ref 89, .int ((119 : Int32) + ((50 : Int32) * x1)), .ref 88]) hX ok_Model_gives rfl ?_
      refine kx_ialdc hX ok_Model_gives (w := 270) (nx := 70) rfl b9 (k := ((97 : Int32) + x1).toNatClampNeg) rfl ?_
      refine kx_go 1 (pc' := 71) (lv' := [.ref 88, .int x1, .int x2, .int x3, .int x4, .int x5, .int x2]) (st' := [.int x1, .int (J14 89 ((97 : Int32) + x1).toNatClampNeg), .int ((119 : Int32) + ((50 : Int32) * x1)), .ref 88]) hX ok_Model_gives rfl ?_
      refine kx_bind (fun p15 hp15 => ?_)
      refine kx_V (r := 88) (as := [.int ((119 : Int32) + ((50 : Int32) * x1)), .int (J14 89 ((97 : Int32) + x1).toNatClampNeg), .int x1]) (by decide) hX ok_Model_gives (nx := 74) rfl l_Model_134 (by decide) rfl (fun _ => s_Model_worked (G := G) (d := 48) (Nat.le_refl _) C J14 ((119 : Int32) + ((50 : Int32) * x1)) (J14 89 ((97 : Int32) + x1).toNatClampNeg) x1 p15 hp15) (by omega) rfl (rest := []) rfl (Nat.le_of_ble_eq_true rfl) ⟨Nat.le_of_ble_eq_true rfl, Nat.le_of_ble_eq_true rfl⟩ ?_
      show _ → kW G X m_Model_gives C p15.2 0 0 74 [.ref 88, .int x1, .int x2, .int x3, .int x4, .int x5, .int x2] [.int p15.1]
      refine kx_go 3 (pc' := if x1 = (0 : Int32) then 80 else 94) (lv' := [.ref 88, .int x1, .int x2, .int x3, .int x4, .int x5, .int p15.1]) (st' := []) hX ok_Model_gives rfl ?_
      refine kx_no c1 ?_
      refine kx_go 3 (pc' := 100) (lv' := [.ref 88, .int x1, .int x2, .int x3, .int x4, .int x5, .int p15.1]) (st' := [.int (999 : Int32), .int (0 : Int32), .int p15.1]) hX ok_Model_gives rfl ?_
      refine kx_S (as := [.int p15.1, .int (0 : Int32), .int (999 : Int32)]) hX ok_Model_gives (nx := 103) rfl l_Model_138 (fun _ => s_Model_held (G := G) (d := 0) (Nat.le_refl _) C p15.2 p15.1 (0 : Int32) (999 : Int32) _ rfl) (by omega) rfl (rest := []) rfl (Nat.le_of_ble_eq_true rfl) ⟨Nat.le_of_ble_eq_true rfl, Nat.le_of_ble_eq_true rfl⟩ ?_
      show _ → kW G X m_Model_gives C p15.2 0 0 103 [.ref 88, .int x1, .int x2, .int x3, .int x4, .int x5, .int p15.1] [.int (M_Model_held p15.1 (0 : Int32) (999 : Int32))]
      intro h; have h := Option.some.inj h; subst h
      exact kx_iret hX hE ok_Model_gives (nx := 104) rfl rfl ⟨Nat.le_of_ble_eq_true rfl, Nat.le_of_ble_eq_true rfl⟩
def M_Model_dates (I : HI) (x1 : Int32) : Option (Int32 × HI) := Option.bind (M_Model_of I x1 (6 : Int32)) fun p1 => Option.bind (M_Model_of I x1 (1 : Int32)) fun p2 => Option.bind (M_Model_of I x1 (0 : Int32)) fun p3 => Option.bind (M_Model_of I x1 (3 : Int32)) fun p4 => Option.bind (M_Model_gives I (0 : Int32) p1 p2 p3 p4) fun p5 => some (p5.1, p5.2)
theorem s_Model_dates {G : xG} {d : Nat} (hd : 50 ≤ d) (C : HC) (I : HI) (x1 : Int32)  (r : Int32 × HI) : M_Model_dates I x1 = some r → kM G d m_Model_dates [.ref 88, .int x1] C I 0 0 (some (.int r.1)) C r.2 := by
  unfold M_Model_dates
  refine kM.of (by decide +kernel) (Nat.le_of_ble_eq_true rfl) (lv := [.ref 88, .int x1]) rfl (fun X hX hE => ?_)
  refine kx_go 5 (pc' := 6) (lv' := [.ref 88, .int x1]) (st' := [.int (6 : Int32), .int x1, .ref 88, .int (0 : Int32), .ref 88]) hX ok_Model_dates rfl ?_
  refine kx_bind (fun p1 hp1 => ?_)
  refine kx_V (r := 88) (as := [.int x1, .int (6 : Int32)]) (by decide) hX ok_Model_dates (nx := 9) rfl l_Model_155 (by decide) rfl (fun _ => s_Model_of (G := G) (d := 0) (Nat.le_refl _) C I x1 (6 : Int32) p1 hp1) (by omega) rfl (rest := [.int (0 : Int32), .ref 88]) rfl (Nat.le_of_ble_eq_true rfl) ⟨Nat.le_of_ble_eq_true rfl, Nat.le_of_ble_eq_true rfl⟩ ?_
  show _ → kW G X m_Model_dates C I 0 0 9 [.ref 88, .int x1] [.int p1, .int (0 : Int32), .ref 88]
  refine kx_go 3 (pc' := 12) (lv' := [.ref 88, .int x1]) (st' := [.int (1 : Int32), .int x1, .ref 88, .int p1, .int (0 : Int32), .ref 88]) hX ok_Model_dates rfl ?_
  refine kx_bind (fun p2 hp2 => ?_)
  refine kx_V (r := 88) (as := [.int x1, .int (1 : Int32)]) (by decide) hX ok_Model_dates (nx := 15) rfl l_Model_155 (by decide) rfl (fun _ => s_Model_of (G := G) (d := 0) (Nat.le_refl _) C I x1 (1 : Int32) p2 hp2) (by omega) rfl (rest := [.int p1, .int (0 : Int32), .ref 88]) rfl (Nat.le_of_ble_eq_true rfl) ⟨Nat.le_of_ble_eq_true rfl, Nat.le_of_ble_eq_true rfl⟩ ?_
  show _ → kW G X m_Model_dates C I 0 0 15 [.ref 88, .int x1] [.int p2, .int p1, .int (0 : Int32), .ref 88]
  refine kx_go 3 (pc' := 18) (lv' := [.ref 88, .int x1]) (st' := [.int (0 : Int32), .int x1, .ref 88, .int p2, .int p1, .int (0 : Int32), .ref 88]) hX ok_Model_dates rfl ?_
  refine kx_bind (fun p3 hp3 => ?_)
  refine kx_V (r := 88) (as := [.int x1, .int (0 : Int32)]) (by decide) hX ok_Model_dates (nx := 21) rfl l_Model_155 (by decide) rfl (fun _ => s_Model_of (G := G) (d := 0) (Nat.le_refl _) C I x1 (0 : Int32) p3 hp3) (by omega) rfl (rest := [.int p2, .int p1, .int (0 : Int32), .ref 88]) rfl (Nat.le_of_ble_eq_true rfl) ⟨Nat.le_of_ble_eq_true rfl, Nat.le_of_ble_eq_true rfl⟩ ?_
  show _ → kW G X m_Model_dates C I 0 0 21 [.ref 88, .int x1] [.int p3, .int p2, .int p1, .int (0 : Int32), .ref 88]
  refine kx_go 3 (pc' := 24) (lv' := [.ref 88, .int x1]) (st' := [.int (3 : Int32), .int x1, .ref 88, .int p3, .int p2, .int p1, .int (0 : Int32), .ref 88]) hX ok_Model_dates rfl ?_
  refine kx_bind (fun p4 hp4 => ?_)
  refine kx_V (r := 88) (as := [.int x1, .int (3 : Int32)]) (by decide) hX ok_Model_dates (nx := 27) rfl l_Model_155 (by decide) rfl (fun _ => s_Model_of (G := G) (d := 0) (Nat.le_refl _) C I x1 (3 : Int32) p4 hp4) (by omega) rfl (rest := [.int p3, .int p2, .int p1, .int (0 : Int32), .ref 88]) rfl (Nat.le_of_ble_eq_true rfl) ⟨Nat.le_of_ble_eq_true rfl, Nat.le_of_ble_eq_true rfl⟩ ?_
  show _ → kW G X m_Model_dates C I 0 0 27 [.ref 88, .int x1] [.int p4, .int p3, .int p2, .int p1, .int (0 : Int32), .ref 88]
  refine kx_bind (fun p5 hp5 => ?_)
  refine kx_V (r := 88) (as := [.int (0 : Int32), .int p1, .int p2, .int p3, .int p4]) (by decide) hX ok_Model_dates (nx := 30) rfl l_Model_141 (by decide) rfl (fun _ => s_Model_gives (G := G) (d := 49) (Nat.le_refl _) C I (0 : Int32) p1 p2 p3 p4 p5 hp5) (by omega) rfl (rest := []) rfl (Nat.le_of_ble_eq_true rfl) ⟨Nat.le_of_ble_eq_true rfl, Nat.le_of_ble_eq_true rfl⟩ ?_
  show _ → kW G X m_Model_dates C p5.2 0 0 30 [.ref 88, .int x1] [.int p5.1]
  intro h; have h := Option.some.inj h; subst h
  exact kx_iret hX hE ok_Model_dates (nx := 31) rfl rfl ⟨Nat.le_of_ble_eq_true rfl, Nat.le_of_ble_eq_true rfl⟩
def M_Model_earlyOf (I : HI) (x1 : Int32) : Option (Int32 × HI) := Option.bind (M_Model_of I x1 (4 : Int32)) fun p1 => Option.bind (M_Model_of I x1 (1 : Int32)) fun p2 => Option.bind (M_Model_of I x1 (0 : Int32)) fun p3 => if p3 = (1 : Int32) then (Option.bind (M_Model_dates I x1) fun p5 => some ((M_Model_held ((p1 + p2) + p5.1) (0 : Int32) (9999 : Int32)), p5.2)) else (if p3 = (2 : Int32) then (Option.bind (M_Model_dates I x1) fun p7 => some ((M_Model_held (p1 + p7.1) (0 : Int32) (9999 : Int32)), p7.2)) else (if p3 = (3 : Int32) then (Option.bind (M_Model_dates I x1) fun p9 => some ((M_Model_held ((p1 - ((10 : Int32) * p2)) + p9.1) (0 : Int32) (9999 : Int32)), p9.2)) else (if p3 = (4 : Int32) then (Option.bind (M_Model_dates I x1) fun p11 => some ((M_Model_held ((p1 + (p2 + (50 : Int32))) + p11.1) (0 : Int32) (9999 : Int32)), p11.2)) else (if p3 = (5 : Int32) then (Option.bind (M_Model_of I x1 (6 : Int32)) fun p13 => Option.bind (M_Model_dates I x1) fun p14 => some ((M_Model_held ((p1 + p13) + p14.1) (0 : Int32) (9999 : Int32)), p14.2)) else (if p3 = (6 : Int32) then (if (5000 : Int32) ≤ (p1 - ((10 : Int32) * p2)) then (Option.bind (M_Model_dates I x1) fun p17 => some ((M_Model_held ((p1 - ((10 : Int32) * p2)) + p17.1) (0 : Int32) (9999 : Int32)), p17.2)) else (Option.bind (M_Model_dates I x1) fun p18 => some ((M_Model_held ((5000 : Int32) + p18.1) (0 : Int32) (9999 : Int32)), p18.2))) else (Option.bind (M_Model_dates I x1) fun p19 => some ((M_Model_held (p1 + p19.1) (0 : Int32) (9999 : Int32)), p19.2)))))))
theorem s_Model_earlyOf {G : xG} {d : Nat} (hd : 51 ≤ d) (C : HC) (I : HI) (x1 : Int32)  (r : Int32 × HI) : M_Model_earlyOf I x1 = some r → kM G d m_Model_earlyOf [.ref 88, .int x1] C I 0 0 (some (.int r.1)) C r.2 := by
  unfold M_Model_earlyOf
  refine kM.of (by decide +kernel) (Nat.le_of_ble_eq_true rfl) (lv := [.ref 88, .int x1, .null, .null]) rfl (fun X hX hE => ?_)
  refine kx_go 3 (pc' := 3) (lv' := [.ref 88, .int x1, .null, .null]) (st' := [.int (4 : Int32), .int x1, .ref 88]) hX ok_Model_earlyOf rfl ?_
  refine kx_bind (fun p1 hp1 => ?_)
  refine kx_V (r := 88) (as := [.int x1, .int (4 : Int32)]) (by decide) hX ok_Model_earlyOf (nx := 6) rfl l_Model_155 (by decide) rfl (fun _ => s_Model_of (G := G) (d := 0) (Nat.le_refl _) C I x1 (4 : Int32) p1 hp1) (by omega) rfl (rest := []) rfl (Nat.le_of_ble_eq_true rfl) ⟨Nat.le_of_ble_eq_true rfl, Nat.le_of_ble_eq_true rfl⟩ ?_
  show _ → kW G X m_Model_earlyOf C I 0 0 6 [.ref 88, .int x1, .null, .null] [.int p1]
  refine kx_go 4 (pc' := 10) (lv' := [.ref 88, .int x1, .int p1, .null]) (st' := [.int (1 : Int32), .int x1, .ref 88]) hX ok_Model_earlyOf rfl ?_
  refine kx_bind (fun p2 hp2 => ?_)
  refine kx_V (r := 88) (as := [.int x1, .int (1 : Int32)]) (by decide) hX ok_Model_earlyOf (nx := 13) rfl l_Model_155 (by decide) rfl (fun _ => s_Model_of (G := G) (d := 0) (Nat.le_refl _) C I x1 (1 : Int32) p2 hp2) (by omega) rfl (rest := []) rfl (Nat.le_of_ble_eq_true rfl) ⟨Nat.le_of_ble_eq_true rfl, Nat.le_of_ble_eq_true rfl⟩ ?_
  show _ → kW G X m_Model_earlyOf C I 0 0 13 [.ref 88, .int x1, .int p1, .null] [.int p2]
  refine kx_go 4 (pc' := 17) (lv' := [.ref 88, .int x1, .int p1, .int p2]) (st' := [.int (0 : Int32), .int x1, .ref 88]) hX ok_Model_earlyOf rfl ?_
  refine kx_bind (fun p3 hp3 => ?_)
  refine kx_V (r := 88) (as := [.int x1, .int (0 : Int32)]) (by decide) hX ok_Model_earlyOf (nx := 20) rfl l_Model_155 (by decide) rfl (fun _ => s_Model_of (G := G) (d := 0) (Nat.le_refl _) C I x1 (0 : Int32) p3 hp3) (by omega) rfl (rest := []) rfl (Nat.le_of_ble_eq_true rfl) ⟨Nat.le_of_ble_eq_true rfl, Nat.le_of_ble_eq_true rfl⟩ ?_
  show _ → kW G X m_Model_earlyOf C I 0 0 20 [.ref 88, .int x1, .int p1, .int p2] [.int p3]
  refine kx_go 1 (pc' := xtsw p3 [((1 : Int32), 60), ((2 : Int32), 128), ((3 : Int32), 90), ((4 : Int32), 67), ((5 : Int32), 77), ((6 : Int32), 100)] 128) (lv' := [.ref 88, .int x1, .int p1, .int p2]) (st' := []) hX ok_Model_earlyOf rfl ?_
  refine kx_sw (fun c4 => ?_) (fun c4 => ?_)
  · refine kx_go 8 (pc' := 131) (lv' := [.ref 88, .int x1, .int (p1 + p2), .int p2]) (st' := [.int x1, .ref 88, .int (p1 + p2)]) hX ok_Model_earlyOf rfl ?_
    refine kx_bind (fun p5 hp5 => ?_)
    refine kx_V (r := 88) (as := [.int x1]) (by decide) hX ok_Model_earlyOf (nx := 134) rfl l_Model_159 (by decide) rfl (fun _ => s_Model_dates (G := G) (d := 50) (Nat.le_refl _) C I x1 p5 hp5) (by omega) rfl (rest := [.int (p1 + p2)]) rfl (Nat.le_of_ble_eq_true rfl) ⟨Nat.le_of_ble_eq_true rfl, Nat.le_of_ble_eq_true rfl⟩ ?_
    show _ → kW G X m_Model_earlyOf C p5.2 0 0 134 [.ref 88, .int x1, .int (p1 + p2), .int p2] [.int p5.1, .int (p1 + p2)]
    refine kx_go 3 (pc' := 139) (lv' := [.ref 88, .int x1, .int (p1 + p2), .int p2]) (st' := [.int (9999 : Int32), .int (0 : Int32), .int ((p1 + p2) + p5.1)]) hX ok_Model_earlyOf rfl ?_
    refine kx_S (as := [.int ((p1 + p2) + p5.1), .int (0 : Int32), .int (9999 : Int32)]) hX ok_Model_earlyOf (nx := 142) rfl l_Model_138 (fun _ => s_Model_held (G := G) (d := 0) (Nat.le_refl _) C p5.2 ((p1 + p2) + p5.1) (0 : Int32) (9999 : Int32) _ rfl) (by omega) rfl (rest := []) rfl (Nat.le_of_ble_eq_true rfl) ⟨Nat.le_of_ble_eq_true rfl, Nat.le_of_ble_eq_true rfl⟩ ?_
    show _ → kW G X m_Model_earlyOf C p5.2 0 0 142 [.ref 88, .int x1, .int (p1 + p2), .int p2] [.int (M_Model_held ((p1 + p2) + p5.1) (0 : Int32) (9999 : Int32))]
    intro h; have h := Option.some.inj h; subst h
    exact kx_iret hX hE ok_Model_earlyOf (nx := 143) rfl rfl ⟨Nat.le_of_ble_eq_true rfl, Nat.le_of_ble_eq_true rfl⟩
  · refine kx_sw (fun c6 => ?_) (fun c6 => ?_)
    · refine kx_go 3 (pc' := 131) (lv' := [.ref 88, .int x1, .int p1, .int p2]) (st' := [.int x1, .ref 88, .int p1]) hX ok_Model_earlyOf rfl ?_
      refine kx_bind (fun p7 hp7 => ?_)
      refine kx_V (r := 88) (as := [.int x1]) (by decide) hX ok_Model_earlyOf (nx := 134) rfl l_Model_159 (by decide) rfl (fun _ => s_Model_dates (G := G) (d := 50) (Nat.le_refl _) C I x1 p7 hp7) (by omega) rfl (rest := [.int p1]) rfl (Nat.le_of_ble_eq_true rfl) ⟨Nat.le_of_ble_eq_true rfl, Nat.le_of_ble_eq_true rfl⟩ ?_
      show _ → kW G X m_Model_earlyOf C p7.2 0 0 134 [.ref 88, .int x1, .int p1, .int p2] [.int p7.1, .int p1]
      refine kx_go 3 (pc' := 139) (lv' := [.ref 88, .int x1, .int p1, .int p2]) (st' := [.int (9999 : Int32), .int (0 : Int32), .int (p1 + p7.1)]) hX ok_Model_earlyOf rfl ?_
      refine kx_S (as := [.int (p1 + p7.1), .int (0 : Int32), .int (9999 : Int32)]) hX ok_Model_earlyOf (nx := 142) rfl l_Model_138 (fun _ => s_Model_held (G := G) (d := 0) (Nat.le_refl _) C p7.2 (p1 + p7.1) (0 : Int32) (9999 : Int32) _ rfl) (by omega) rfl (rest := []) rfl (Nat.le_of_ble_eq_true rfl) ⟨Nat.le_of_ble_eq_true rfl, Nat.le_of_ble_eq_true rfl⟩ ?_
      show _ → kW G X m_Model_earlyOf C p7.2 0 0 142 [.ref 88, .int x1, .int p1, .int p2] [.int (M_Model_held (p1 + p7.1) (0 : Int32) (9999 : Int32))]
      intro h; have h := Option.some.inj h; subst h
      exact kx_iret hX hE ok_Model_earlyOf (nx := 143) rfl rfl ⟨Nat.le_of_ble_eq_true rfl, Nat.le_of_ble_eq_true rfl⟩
    · refine kx_sw (fun c8 => ?_) (fun c8 => ?_)
      · refine kx_go 10 (pc' := 131) (lv' := [.ref 88, .int x1, .int (p1 - ((10 : Int32) * p2)), .int p2]) (st' := [.int x1, .ref 88, .int (p1 - ((10 : Int32) * p2))]) hX ok_Model_earlyOf rfl ?_
        refine kx_bind (fun p9 hp9 => ?_)
        refine kx_V (r := 88) (as := [.int x1]) (by decide) hX ok_Model_earlyOf (nx := 134) rfl l_Model_159 (by decide) rfl (fun _ => s_Model_dates (G := G) (d := 50) (Nat.le_refl _) C I x1 p9 hp9) (by omega) rfl (rest := [.int (p1 - ((10 : Int32) * p2))]) rfl (Nat.le_of_ble_eq_true rfl) ⟨Nat.le_of_ble_eq_true rfl, Nat.le_of_ble_eq_true rfl⟩ ?_
        show _ → kW G X m_Model_earlyOf C p9.2 0 0 134 [.ref 88, .int x1, .int (p1 - ((10 : Int32) * p2)), .int p2] [.int p9.1, .int (p1 - ((10 : Int32) * p2))]
        refine kx_go 3 (pc' := 139) (lv' := [.ref 88, .int x1, .int (p1 - ((10 : Int32) * p2)), .int p2]) (st' := [.int (9999 : Int32), .int (0 : Int32), .int ((p1 - ((10 : Int32) * p2)) + p9.1)]) hX ok_Model_earlyOf rfl ?_
        refine kx_S (as := [.int ((p1 - ((10 : Int32) * p2)) + p9.1), .int (0 : Int32), .int (9999 : Int32)]) hX ok_Model_earlyOf (nx := 142) rfl l_Model_138 (fun _ => s_Model_held (G := G) (d := 0) (Nat.le_refl _) C p9.2 ((p1 - ((10 : Int32) * p2)) + p9.1) (0 : Int32) (9999 : Int32) _ rfl) (by omega) rfl (rest := []) rfl (Nat.le_of_ble_eq_true rfl) ⟨Nat.le_of_ble_eq_true rfl, Nat.le_of_ble_eq_true rfl⟩ ?_
        show _ → kW G X m_Model_earlyOf C p9.2 0 0 142 [.ref 88, .int x1, .int (p1 - ((10 : Int32) * p2)), .int p2] [.int (M_Model_held ((p1 - ((10 : Int32) * p2)) + p9.1) (0 : Int32) (9999 : Int32))]
        intro h; have h := Option.some.inj h; subst h
        exact kx_iret hX hE ok_Model_earlyOf (nx := 143) rfl rfl ⟨Nat.le_of_ble_eq_true rfl, Nat.le_of_ble_eq_true rfl⟩
      · refine kx_sw (fun c10 => ?_) (fun c10 => ?_)
        · refine kx_go 10 (pc' := 131) (lv' := [.ref 88, .int x1, .int (p1 + (p2 + (50 : Int32))), .int p2]) (st' := [.int x1, .ref 88, .int (p1 + (p2 + (50 : Int32)))]) hX ok_Model_earlyOf rfl ?_
          refine kx_bind (fun p11 hp11 => ?_)
          refine kx_V (r := 88) (as := [.int x1]) (by decide) hX ok_Model_earlyOf (nx := 134) rfl l_Model_159 (by decide) rfl (fun _ => s_Model_dates (G := G) (d := 50) (Nat.le_refl _) C I x1 p11 hp11) (by omega) rfl (rest := [.int (p1 + (p2 + (50 : Int32)))]) rfl (Nat.le_of_ble_eq_true rfl) ⟨Nat.le_of_ble_eq_true rfl, Nat.le_of_ble_eq_true rfl⟩ ?_
          show _ → kW G X m_Model_earlyOf C p11.2 0 0 134 [.ref 88, .int x1, .int (p1 + (p2 + (50 : Int32))), .int p2] [.int p11.1, .int (p1 + (p2 + (50 : Int32)))]
          refine kx_go 3 (pc' := 139) (lv' := [.ref 88, .int x1, .int (p1 + (p2 + (50 : Int32))), .int p2]) (st' := [.int (9999 : Int32), .int (0 : Int32), .int ((p1 + (p2 + (50 : Int32))) + p11.1)]) hX ok_Model_earlyOf rfl ?_
          refine kx_S (as := [.int ((p1 + (p2 + (50 : Int32))) + p11.1), .int (0 : Int32), .int (9999 : Int32)]) hX ok_Model_earlyOf (nx := 142) rfl l_Model_138 (fun _ => s_Model_held (G := G) (d := 0) (Nat.le_refl _) C p11.2 ((p1 + (p2 + (50 : Int32))) + p11.1) (0 : Int32) (9999 : Int32) _ rfl) (by omega) rfl (rest := []) rfl (Nat.le_of_ble_eq_true rfl) ⟨Nat.le_of_ble_eq_true rfl, Nat.le_of_ble_eq_true rfl⟩ ?_
          show _ → kW G X m_Model_earlyOf C p11.2 0 0 142 [.ref 88, .int x1, .int (p1 + (p2 + (50 : Int32))), .int p2] [.int (M_Model_held ((p1 + (p2 + (50 : Int32))) + p11.1) (0 : Int32) (9999 : Int32))]
          intro h; have h := Option.some.inj h; subst h
          exact kx_iret hX hE ok_Model_earlyOf (nx := 143) rfl rfl ⟨Nat.le_of_ble_eq_true rfl, Nat.le_of_ble_eq_true rfl⟩
        · refine kx_sw (fun c12 => ?_) (fun c12 => ?_)
          · refine kx_go 4 (pc' := 82) (lv' := [.ref 88, .int x1, .int p1, .int p2]) (st' := [.int (6 : Int32), .int x1, .ref 88, .int p1]) hX ok_Model_earlyOf rfl ?_
            refine kx_bind (fun p13 hp13 => ?_)
            refine kx_V (r := 88) (as := [.int x1, .int (6 : Int32)]) (by decide) hX ok_Model_earlyOf (nx := 85) rfl l_Model_155 (by decide) rfl (fun _ => s_Model_of (G := G) (d := 0) (Nat.le_refl _) C I x1 (6 : Int32) p13 hp13) (by omega) rfl (rest := [.int p1]) rfl (Nat.le_of_ble_eq_true rfl) ⟨Nat.le_of_ble_eq_true rfl, Nat.le_of_ble_eq_true rfl⟩ ?_
            show _ → kW G X m_Model_earlyOf C I 0 0 85 [.ref 88, .int x1, .int p1, .int p2] [.int p13, .int p1]
            refine kx_go 6 (pc' := 131) (lv' := [.ref 88, .int x1, .int (p1 + p13), .int p2]) (st' := [.int x1, .ref 88, .int (p1 + p13)]) hX ok_Model_earlyOf rfl ?_
            refine kx_bind (fun p14 hp14 => ?_)
            refine kx_V (r := 88) (as := [.int x1]) (by decide) hX ok_Model_earlyOf (nx := 134) rfl l_Model_159 (by decide) rfl (fun _ => s_Model_dates (G := G) (d := 50) (Nat.le_refl _) C I x1 p14 hp14) (by omega) rfl (rest := [.int (p1 + p13)]) rfl (Nat.le_of_ble_eq_true rfl) ⟨Nat.le_of_ble_eq_true rfl, Nat.le_of_ble_eq_true rfl⟩ ?_
            show _ → kW G X m_Model_earlyOf C p14.2 0 0 134 [.ref 88, .int x1, .int (p1 + p13), .int p2] [.int p14.1, .int (p1 + p13)]
            refine kx_go 3 (pc' := 139) (lv' := [.ref 88, .int x1, .int (p1 + p13), .int p2]) (st' := [.int (9999 : Int32), .int (0 : Int32), .int ((p1 + p13) + p14.1)]) hX ok_Model_earlyOf rfl ?_
            refine kx_S (as := [.int ((p1 + p13) + p14.1), .int (0 : Int32), .int (9999 : Int32)]) hX ok_Model_earlyOf (nx := 142) rfl l_Model_138 (fun _ => s_Model_held (G := G) (d := 0) (Nat.le_refl _) C p14.2 ((p1 + p13) + p14.1) (0 : Int32) (9999 : Int32) _ rfl) (by omega) rfl (rest := []) rfl (Nat.le_of_ble_eq_true rfl) ⟨Nat.le_of_ble_eq_true rfl, Nat.le_of_ble_eq_true rfl⟩ ?_
            show _ → kW G X m_Model_earlyOf C p14.2 0 0 142 [.ref 88, .int x1, .int (p1 + p13), .int p2] [.int (M_Model_held ((p1 + p13) + p14.1) (0 : Int32) (9999 : Int32))]
            intro h; have h := Option.some.inj h; subst h
            exact kx_iret hX hE ok_Model_earlyOf (nx := 143) rfl rfl ⟨Nat.le_of_ble_eq_true rfl, Nat.le_of_ble_eq_true rfl⟩
          · refine kx_sw (fun c15 => ?_) (fun c15 => ?_)
            · refine kx_go 7 (pc' := if (5000 : Int32) ≤ (p1 - ((10 : Int32) * p2)) then 118 else 112) (lv' := [.ref 88, .int x1, .int p1, .int p2]) (st' := []) hX ok_Model_earlyOf rfl ?_
              refine kx_ite (fun c16 => ?_) (fun c16 => ?_)
              · refine kx_go 10 (pc' := 131) (lv' := [.ref 88, .int x1, .int (p1 - ((10 : Int32) * p2)), .int p2]) (st' := [.int x1, .ref 88, .int (p1 - ((10 : Int32) * p2))]) hX ok_Model_earlyOf rfl ?_
                refine kx_bind (fun p17 hp17 => ?_)
                refine kx_V (r := 88) (as := [.int x1]) (by decide) hX ok_Model_earlyOf (nx := 134) rfl l_Model_159 (by decide) rfl (fun _ => s_Model_dates (G := G) (d := 50) (Nat.le_refl _) C I x1 p17 hp17) (by omega) rfl (rest := [.int (p1 - ((10 : Int32) * p2))]) rfl (Nat.le_of_ble_eq_true rfl) ⟨Nat.le_of_ble_eq_true rfl, Nat.le_of_ble_eq_true rfl⟩ ?_
                show _ → kW G X m_Model_earlyOf C p17.2 0 0 134 [.ref 88, .int x1, .int (p1 - ((10 : Int32) * p2)), .int p2] [.int p17.1, .int (p1 - ((10 : Int32) * p2))]
                refine kx_go 3 (pc' := 139) (lv' := [.ref 88, .int x1, .int (p1 - ((10 : Int32) * p2)), .int p2]) (st' := [.int (9999 : Int32), .int (0 : Int32), .int ((p1 - ((10 : Int32) * p2)) + p17.1)]) hX ok_Model_earlyOf rfl ?_
                refine kx_S (as := [.int ((p1 - ((10 : Int32) * p2)) + p17.1), .int (0 : Int32), .int (9999 : Int32)]) hX ok_Model_earlyOf (nx := 142) rfl l_Model_138 (fun _ => s_Model_held (G := G) (d := 0) (Nat.le_refl _) C p17.2 ((p1 - ((10 : Int32) * p2)) + p17.1) (0 : Int32) (9999 : Int32) _ rfl) (by omega) rfl (rest := []) rfl (Nat.le_of_ble_eq_true rfl) ⟨Nat.le_of_ble_eq_true rfl, Nat.le_of_ble_eq_true rfl⟩ ?_
                show _ → kW G X m_Model_earlyOf C p17.2 0 0 142 [.ref 88, .int x1, .int (p1 - ((10 : Int32) * p2)), .int p2] [.int (M_Model_held ((p1 - ((10 : Int32) * p2)) + p17.1) (0 : Int32) (9999 : Int32))]
                intro h; have h := Option.some.inj h; subst h
                exact kx_iret hX hE ok_Model_earlyOf (nx := 143) rfl rfl ⟨Nat.le_of_ble_eq_true rfl, Nat.le_of_ble_eq_true rfl⟩
              · refine kx_go 7 (pc' := 131) (lv' := [.ref 88, .int x1, .int (5000 : Int32), .int p2]) (st' := [.int x1, .ref 88, .int (5000 : Int32)]) hX ok_Model_earlyOf rfl ?_
                refine kx_bind (fun p18 hp18 => ?_)
                refine kx_V (r := 88) (as := [.int x1]) (by decide) hX ok_Model_earlyOf (nx := 134) rfl l_Model_159 (by decide) rfl (fun _ => s_Model_dates (G := G) (d := 50) (Nat.le_refl _) C I x1 p18 hp18) (by omega) rfl (rest := [.int (5000 : Int32)]) rfl (Nat.le_of_ble_eq_true rfl) ⟨Nat.le_of_ble_eq_true rfl, Nat.le_of_ble_eq_true rfl⟩ ?_
                show _ → kW G X m_Model_earlyOf C p18.2 0 0 134 [.ref 88, .int x1, .int (5000 : Int32), .int p2] [.int p18.1, .int (5000 : Int32)]
                refine kx_go 3 (pc' := 139) (lv' := [.ref 88, .int x1, .int (5000 : Int32), .int p2]) (st' := [.int (9999 : Int32), .int (0 : Int32), .int ((5000 : Int32) + p18.1)]) hX ok_Model_earlyOf rfl ?_
                refine kx_S (as := [.int ((5000 : Int32) + p18.1), .int (0 : Int32), .int (9999 : Int32)]) hX ok_Model_earlyOf (nx := 142) rfl l_Model_138 (fun _ => s_Model_held (G := G) (d := 0) (Nat.le_refl _) C p18.2 ((5000 : Int32) + p18.1) (0 : Int32) (9999 : Int32) _ rfl) (by omega) rfl (rest := []) rfl (Nat.le_of_ble_eq_true rfl) ⟨Nat.le_of_ble_eq_true rfl, Nat.le_of_ble_eq_true rfl⟩ ?_
                show _ → kW G X m_Model_earlyOf C p18.2 0 0 142 [.ref 88, .int x1, .int (5000 : Int32), .int p2] [.int (M_Model_held ((5000 : Int32) + p18.1) (0 : Int32) (9999 : Int32))]
                intro h; have h := Option.some.inj h; subst h
                exact kx_iret hX hE ok_Model_earlyOf (nx := 143) rfl rfl ⟨Nat.le_of_ble_eq_true rfl, Nat.le_of_ble_eq_true rfl⟩
            · refine kx_sw0 ?_
              refine kx_go 3 (pc' := 131) (lv' := [.ref 88, .int x1, .int p1, .int p2]) (st' := [.int x1, .ref 88, .int p1]) hX ok_Model_earlyOf rfl ?_
              refine kx_bind (fun p19 hp19 => ?_)
              refine kx_V (r := 88) (as := [.int x1]) (by decide) hX ok_Model_earlyOf (nx := 134) rfl l_Model_159 (by decide) rfl (fun _ => s_Model_dates (G := G) (d := 50) (Nat.le_refl _) C I x1 p19 hp19) (by omega) rfl (rest := [.int p1]) rfl (Nat.le_of_ble_eq_true rfl) ⟨Nat.le_of_ble_eq_true rfl, Nat.le_of_ble_eq_true rfl⟩ ?_
              show _ → kW G X m_Model_earlyOf C p19.2 0 0 134 [.ref 88, .int x1, .int p1, .int p2] [.int p19.1, .int p1]
              refine kx_go 3 (pc' := 139) (lv' := [.ref 88, .int x1, .int p1, .int p2]) (st' := [.int (9999 : Int32), .int (0 : Int32), .int (p1 + p19.1)]) hX ok_Model_earlyOf rfl ?_
              refine kx_S (as := [.int (p1 + p19.1), .int (0 : Int32), .int (9999 : Int32)]) hX ok_Model_earlyOf (nx := 142) rfl l_Model_138 (fun _ => s_Model_held (G := G) (d := 0) (Nat.le_refl _) C p19.2 (p1 + p19.1) (0 : Int32) (9999 : Int32) _ rfl) (by omega) rfl (rest := []) rfl (Nat.le_of_ble_eq_true rfl) ⟨Nat.le_of_ble_eq_true rfl, Nat.le_of_ble_eq_true rfl⟩ ?_
              show _ → kW G X m_Model_earlyOf C p19.2 0 0 142 [.ref 88, .int x1, .int p1, .int p2] [.int (M_Model_held (p1 + p19.1) (0 : Int32) (9999 : Int32))]
              intro h; have h := Option.some.inj h; subst h
              exact kx_iret hX hE ok_Model_earlyOf (nx := 143) rfl rfl ⟨Nat.le_of_ble_eq_true rfl, Nat.le_of_ble_eq_true rfl⟩
def M_Model_lateOf (I : HI) (x1 : Int32) : Option (Int32 × HI) := Option.bind (M_Model_of I x1 (5 : Int32)) fun p1 => Option.bind (M_Model_of I x1 (0 : Int32)) fun p2 => if p2 = (2 : Int32) then (Option.bind (M_Model_of I x1 (6 : Int32)) fun p4 => Option.bind (M_Model_dates I x1) fun p5 => some ((M_Model_held ((p1 - p4) + p5.1) (0 : Int32) (9999 : Int32)), p5.2)) else (if p2 = (3 : Int32) then (Option.bind (M_Model_dates I x1) fun p7 => some ((M_Model_held (p1 + p7.1) (0 : Int32) (9999 : Int32)), p7.2)) else (if p2 = (4 : Int32) then (Option.bind (M_Model_of I x1 (1 : Int32)) fun p9 => Option.bind (M_Model_dates I x1) fun p10 => some ((M_Model_held ((p1 - p9) + p10.1) (0 : Int32) (9999 : Int32)), p10.2)) else (if p2 = (5 : Int32) then (Option.bind (M_Model_of I x1 (6 : Int32)) fun p12 => Option.bind (M_Model_dates I x1) fun p13 => some ((M_Model_held ((p1 - ((2 : Int32) * p12)) + p13.1) (0 : Int32) (9999 : Int32)), p13.2)) else (if p2 = (6 : Int32) then (Option.bind (M_Model_dates I x1) fun p15 => some ((M_Model_held ((9999 : Int32) + p15.1) (0 : Int32) (9999 : Int32)), p15.2)) else (Option.bind (M_Model_dates I x1) fun p16 => some ((M_Model_held (p1 + p16.1) (0 : Int32) (9999 : Int32)), p16.2))))))
theorem s_Model_lateOf {G : xG} {d : Nat} (hd : 51 ≤ d) (C : HC) (I : HI) (x1 : Int32)  (r : Int32 × HI) : M_Model_lateOf I x1 = some r → kM G d m_Model_lateOf [.ref 88, .int x1] C I 0 0 (some (.int r.1)) C r.2 := by
  unfold M_Model_lateOf
  refine kM.of (by decide +kernel) (Nat.le_of_ble_eq_true rfl) (lv := [.ref 88, .int x1, .null]) rfl (fun X hX hE => ?_)
  refine kx_go 3 (pc' := 3) (lv' := [.ref 88, .int x1, .null]) (st' := [.int (5 : Int32), .int x1, .ref 88]) hX ok_Model_lateOf rfl ?_
  refine kx_bind (fun p1 hp1 => ?_)
  refine kx_V (r := 88) (as := [.int x1, .int (5 : Int32)]) (by decide) hX ok_Model_lateOf (nx := 6) rfl l_Model_155 (by decide) rfl (fun _ => s_Model_of (G := G) (d := 0) (Nat.le_refl _) C I x1 (5 : Int32) p1 hp1) (by omega) rfl (rest := []) rfl (Nat.le_of_ble_eq_true rfl) ⟨Nat.le_of_ble_eq_true rfl, Nat.le_of_ble_eq_true rfl⟩ ?_
  show _ → kW G X m_Model_lateOf C I 0 0 6 [.ref 88, .int x1, .null] [.int p1]
  refine kx_go 4 (pc' := 10) (lv' := [.ref 88, .int x1, .int p1]) (st' := [.int (0 : Int32), .int x1, .ref 88]) hX ok_Model_lateOf rfl ?_
  refine kx_bind (fun p2 hp2 => ?_)
  refine kx_V (r := 88) (as := [.int x1, .int (0 : Int32)]) (by decide) hX ok_Model_lateOf (nx := 13) rfl l_Model_155 (by decide) rfl (fun _ => s_Model_of (G := G) (d := 0) (Nat.le_refl _) C I x1 (0 : Int32) p2 hp2) (by omega) rfl (rest := []) rfl (Nat.le_of_ble_eq_true rfl) ⟨Nat.le_of_ble_eq_true rfl, Nat.le_of_ble_eq_true rfl⟩ ?_
  show _ → kW G X m_Model_lateOf C I 0 0 13 [.ref 88, .int x1, .int p1] [.int p2]
  refine kx_go 1 (pc' := xtsw p2 [((2 : Int32), 48), ((3 : Int32), 95), ((4 : Int32), 76), ((5 : Int32), 61), ((6 : Int32), 88)] 95) (lv' := [.ref 88, .int x1, .int p1]) (st' := []) hX ok_Model_lateOf rfl ?_
  refine kx_sw (fun c3 => ?_) (fun c3 => ?_)
  · refine kx_go 4 (pc' := 53) (lv' := [.ref 88, .int x1, .int p1]) (st' := [.int (6 : Int32), .int x1, .ref 88, .int p1]) hX ok_Model_lateOf rfl ?_
    refine kx_bind (fun p4 hp4 => ?_)
    refine kx_V (r := 88) (as := [.int x1, .int (6 : Int32)]) (by decide) hX ok_Model_lateOf (nx := 56) rfl l_Model_155 (by decide) rfl (fun _ => s_Model_of (G := G) (d := 0) (Nat.le_refl _) C I x1 (6 : Int32) p4 hp4) (by omega) rfl (rest := [.int p1]) rfl (Nat.le_of_ble_eq_true rfl) ⟨Nat.le_of_ble_eq_true rfl, Nat.le_of_ble_eq_true rfl⟩ ?_
    show _ → kW G X m_Model_lateOf C I 0 0 56 [.ref 88, .int x1, .int p1] [.int p4, .int p1]
    refine kx_go 6 (pc' := 98) (lv' := [.ref 88, .int x1, .int (p1 - p4)]) (st' := [.int x1, .ref 88, .int (p1 - p4)]) hX ok_Model_lateOf rfl ?_
    refine kx_bind (fun p5 hp5 => ?_)
    refine kx_V (r := 88) (as := [.int x1]) (by decide) hX ok_Model_lateOf (nx := 101) rfl l_Model_159 (by decide) rfl (fun _ => s_Model_dates (G := G) (d := 50) (Nat.le_refl _) C I x1 p5 hp5) (by omega) rfl (rest := [.int (p1 - p4)]) rfl (Nat.le_of_ble_eq_true rfl) ⟨Nat.le_of_ble_eq_true rfl, Nat.le_of_ble_eq_true rfl⟩ ?_
    show _ → kW G X m_Model_lateOf C p5.2 0 0 101 [.ref 88, .int x1, .int (p1 - p4)] [.int p5.1, .int (p1 - p4)]
    refine kx_go 3 (pc' := 106) (lv' := [.ref 88, .int x1, .int (p1 - p4)]) (st' := [.int (9999 : Int32), .int (0 : Int32), .int ((p1 - p4) + p5.1)]) hX ok_Model_lateOf rfl ?_
    refine kx_S (as := [.int ((p1 - p4) + p5.1), .int (0 : Int32), .int (9999 : Int32)]) hX ok_Model_lateOf (nx := 109) rfl l_Model_138 (fun _ => s_Model_held (G := G) (d := 0) (Nat.le_refl _) C p5.2 ((p1 - p4) + p5.1) (0 : Int32) (9999 : Int32) _ rfl) (by omega) rfl (rest := []) rfl (Nat.le_of_ble_eq_true rfl) ⟨Nat.le_of_ble_eq_true rfl, Nat.le_of_ble_eq_true rfl⟩ ?_
    show _ → kW G X m_Model_lateOf C p5.2 0 0 109 [.ref 88, .int x1, .int (p1 - p4)] [.int (M_Model_held ((p1 - p4) + p5.1) (0 : Int32) (9999 : Int32))]
    intro h; have h := Option.some.inj h; subst h
    exact kx_iret hX hE ok_Model_lateOf (nx := 110) rfl rfl ⟨Nat.le_of_ble_eq_true rfl, Nat.le_of_ble_eq_true rfl⟩
  · refine kx_sw (fun c6 => ?_) (fun c6 => ?_)
    · refine kx_go 3 (pc' := 98) (lv' := [.ref 88, .int x1, .int p1]) (st' := [.int x1, .ref 88, .int p1]) hX ok_Model_lateOf rfl ?_
      refine kx_bind (fun p7 hp7 => ?_)
      refine kx_V (r := 88) (as := [.int x1]) (by decide) hX ok_Model_lateOf (nx := 101) rfl l_Model_159 (by decide) rfl (fun _ => s_Model_dates (G := G) (d := 50) (Nat.le_refl _) C I x1 p7 hp7) (by omega) rfl (rest := [.int p1]) rfl (Nat.le_of_ble_eq_true rfl) ⟨Nat.le_of_ble_eq_true rfl, Nat.le_of_ble_eq_true rfl⟩ ?_
      show _ → kW G X m_Model_lateOf C p7.2 0 0 101 [.ref 88, .int x1, .int p1] [.int p7.1, .int p1]
      refine kx_go 3 (pc' := 106) (lv' := [.ref 88, .int x1, .int p1]) (st' := [.int (9999 : Int32), .int (0 : Int32), .int (p1 + p7.1)]) hX ok_Model_lateOf rfl ?_
      refine kx_S (as := [.int (p1 + p7.1), .int (0 : Int32), .int (9999 : Int32)]) hX ok_Model_lateOf (nx := 109) rfl l_Model_138 (fun _ => s_Model_held (G := G) (d := 0) (Nat.le_refl _) C p7.2 (p1 + p7.1) (0 : Int32) (9999 : Int32) _ rfl) (by omega) rfl (rest := []) rfl (Nat.le_of_ble_eq_true rfl) ⟨Nat.le_of_ble_eq_true rfl, Nat.le_of_ble_eq_true rfl⟩ ?_
      show _ → kW G X m_Model_lateOf C p7.2 0 0 109 [.ref 88, .int x1, .int p1] [.int (M_Model_held (p1 + p7.1) (0 : Int32) (9999 : Int32))]
      intro h; have h := Option.some.inj h; subst h
      exact kx_iret hX hE ok_Model_lateOf (nx := 110) rfl rfl ⟨Nat.le_of_ble_eq_true rfl, Nat.le_of_ble_eq_true rfl⟩
    · refine kx_sw (fun c8 => ?_) (fun c8 => ?_)
      · refine kx_go 4 (pc' := 80) (lv' := [.ref 88, .int x1, .int p1]) (st' := [.int (1 : Int32), .int x1, .ref 88, .int p1]) hX ok_Model_lateOf rfl ?_
        refine kx_bind (fun p9 hp9 => ?_)
        refine kx_V (r := 88) (as := [.int x1, .int (1 : Int32)]) (by decide) hX ok_Model_lateOf (nx := 83) rfl l_Model_155 (by decide) rfl (fun _ => s_Model_of (G := G) (d := 0) (Nat.le_refl _) C I x1 (1 : Int32) p9 hp9) (by omega) rfl (rest := [.int p1]) rfl (Nat.le_of_ble_eq_true rfl) ⟨Nat.le_of_ble_eq_true rfl, Nat.le_of_ble_eq_true rfl⟩ ?_
        show _ → kW G X m_Model_lateOf C I 0 0 83 [.ref 88, .int x1, .int p1] [.int p9, .int p1]
        refine kx_go 6 (pc' := 98) (lv' := [.ref 88, .int x1, .int (p1 - p9)]) (st' := [.int x1, .ref 88, .int (p1 - p9)]) hX ok_Model_lateOf rfl ?_
        refine kx_bind (fun p10 hp10 => ?_)
        refine kx_V (r := 88) (as := [.int x1]) (by decide) hX ok_Model_lateOf (nx := 101) rfl l_Model_159 (by decide) rfl (fun _ => s_Model_dates (G := G) (d := 50) (Nat.le_refl _) C I x1 p10 hp10) (by omega) rfl (rest := [.int (p1 - p9)]) rfl (Nat.le_of_ble_eq_true rfl) ⟨Nat.le_of_ble_eq_true rfl, Nat.le_of_ble_eq_true rfl⟩ ?_
        show _ → kW G X m_Model_lateOf C p10.2 0 0 101 [.ref 88, .int x1, .int (p1 - p9)] [.int p10.1, .int (p1 - p9)]
        refine kx_go 3 (pc' := 106) (lv' := [.ref 88, .int x1, .int (p1 - p9)]) (st' := [.int (9999 : Int32), .int (0 : Int32), .int ((p1 - p9) + p10.1)]) hX ok_Model_lateOf rfl ?_
        refine kx_S (as := [.int ((p1 - p9) + p10.1), .int (0 : Int32), .int (9999 : Int32)]) hX ok_Model_lateOf (nx := 109) rfl l_Model_138 (fun _ => s_Model_held (G := G) (d := 0) (Nat.le_refl _) C p10.2 ((p1 - p9) + p10.1) (0 : Int32) (9999 : Int32) _ rfl) (by omega) rfl (rest := []) rfl (Nat.le_of_ble_eq_true rfl) ⟨Nat.le_of_ble_eq_true rfl, Nat.le_of_ble_eq_true rfl⟩ ?_
        show _ → kW G X m_Model_lateOf C p10.2 0 0 109 [.ref 88, .int x1, .int (p1 - p9)] [.int (M_Model_held ((p1 - p9) + p10.1) (0 : Int32) (9999 : Int32))]
        intro h; have h := Option.some.inj h; subst h
        exact kx_iret hX hE ok_Model_lateOf (nx := 110) rfl rfl ⟨Nat.le_of_ble_eq_true rfl, Nat.le_of_ble_eq_true rfl⟩
      · refine kx_sw (fun c11 => ?_) (fun c11 => ?_)
        · refine kx_go 5 (pc' := 67) (lv' := [.ref 88, .int x1, .int p1]) (st' := [.int (6 : Int32), .int x1, .ref 88, .int (2 : Int32), .int p1]) hX ok_Model_lateOf rfl ?_
          refine kx_bind (fun p12 hp12 => ?_)
          refine kx_V (r := 88) (as := [.int x1, .int (6 : Int32)]) (by decide) hX ok_Model_lateOf (nx := 70) rfl l_Model_155 (by decide) rfl (fun _ => s_Model_of (G := G) (d := 0) (Nat.le_refl _) C I x1 (6 : Int32) p12 hp12) (by omega) rfl (rest := [.int (2 : Int32), .int p1]) rfl (Nat.le_of_ble_eq_true rfl) ⟨Nat.le_of_ble_eq_true rfl, Nat.le_of_ble_eq_true rfl⟩ ?_
          show _ → kW G X m_Model_lateOf C I 0 0 70 [.ref 88, .int x1, .int p1] [.int p12, .int (2 : Int32), .int p1]
          refine kx_go 7 (pc' := 98) (lv' := [.ref 88, .int x1, .int (p1 - ((2 : Int32) * p12))]) (st' := [.int x1, .ref 88, .int (p1 - ((2 : Int32) * p12))]) hX ok_Model_lateOf rfl ?_
          refine kx_bind (fun p13 hp13 => ?_)
          refine kx_V (r := 88) (as := [.int x1]) (by decide) hX ok_Model_lateOf (nx := 101) rfl l_Model_159 (by decide) rfl (fun _ => s_Model_dates (G := G) (d := 50) (Nat.le_refl _) C I x1 p13 hp13) (by omega) rfl (rest := [.int (p1 - ((2 : Int32) * p12))]) rfl (Nat.le_of_ble_eq_true rfl) ⟨Nat.le_of_ble_eq_true rfl, Nat.le_of_ble_eq_true rfl⟩ ?_
          show _ → kW G X m_Model_lateOf C p13.2 0 0 101 [.ref 88, .int x1, .int (p1 - ((2 : Int32) * p12))] [.int p13.1, .int (p1 - ((2 : Int32) * p12))]
          refine kx_go 3 (pc' := 106) (lv' := [.ref 88, .int x1, .int (p1 - ((2 : Int32) * p12))]) (st' := [.int (9999 : Int32), .int (0 : Int32), .int ((p1 - ((2 : Int32) * p12)) + p13.1)]) hX ok_Model_lateOf rfl ?_
          refine kx_S (as := [.int ((p1 - ((2 : Int32) * p12)) + p13.1), .int (0 : Int32), .int (9999 : Int32)]) hX ok_Model_lateOf (nx := 109) rfl l_Model_138 (fun _ => s_Model_held (G := G) (d := 0) (Nat.le_refl _) C p13.2 ((p1 - ((2 : Int32) * p12)) + p13.1) (0 : Int32) (9999 : Int32) _ rfl) (by omega) rfl (rest := []) rfl (Nat.le_of_ble_eq_true rfl) ⟨Nat.le_of_ble_eq_true rfl, Nat.le_of_ble_eq_true rfl⟩ ?_
          show _ → kW G X m_Model_lateOf C p13.2 0 0 109 [.ref 88, .int x1, .int (p1 - ((2 : Int32) * p12))] [.int (M_Model_held ((p1 - ((2 : Int32) * p12)) + p13.1) (0 : Int32) (9999 : Int32))]
          intro h; have h := Option.some.inj h; subst h
          exact kx_iret hX hE ok_Model_lateOf (nx := 110) rfl rfl ⟨Nat.le_of_ble_eq_true rfl, Nat.le_of_ble_eq_true rfl⟩
        · refine kx_sw (fun c14 => ?_) (fun c14 => ?_)
          · refine kx_go 6 (pc' := 98) (lv' := [.ref 88, .int x1, .int (9999 : Int32)]) (st' := [.int x1, .ref 88, .int (9999 : Int32)]) hX ok_Model_lateOf rfl ?_
            refine kx_bind (fun p15 hp15 => ?_)
            refine kx_V (r := 88) (as := [.int x1]) (by decide) hX ok_Model_lateOf (nx := 101) rfl l_Model_159 (by decide) rfl (fun _ => s_Model_dates (G := G) (d := 50) (Nat.le_refl _) C I x1 p15 hp15) (by omega) rfl (rest := [.int (9999 : Int32)]) rfl (Nat.le_of_ble_eq_true rfl) ⟨Nat.le_of_ble_eq_true rfl, Nat.le_of_ble_eq_true rfl⟩ ?_
            show _ → kW G X m_Model_lateOf C p15.2 0 0 101 [.ref 88, .int x1, .int (9999 : Int32)] [.int p15.1, .int (9999 : Int32)]
            refine kx_go 3 (pc' := 106) (lv' := [.ref 88, .int x1, .int (9999 : Int32)]) (st' := [.int (9999 : Int32), .int (0 : Int32), .int ((9999 : Int32) + p15.1)]) hX ok_Model_lateOf rfl ?_
            refine kx_S (as := [.int ((9999 : Int32) + p15.1), .int (0 : Int32), .int (9999 : Int32)]) hX ok_Model_lateOf (nx := 109) rfl l_Model_138 (fun _ => s_Model_held (G := G) (d := 0) (Nat.le_refl _) C p15.2 ((9999 : Int32) + p15.1) (0 : Int32) (9999 : Int32) _ rfl) (by omega) rfl (rest := []) rfl (Nat.le_of_ble_eq_true rfl) ⟨Nat.le_of_ble_eq_true rfl, Nat.le_of_ble_eq_true rfl⟩ ?_
            show _ → kW G X m_Model_lateOf C p15.2 0 0 109 [.ref 88, .int x1, .int (9999 : Int32)] [.int (M_Model_held ((9999 : Int32) + p15.1) (0 : Int32) (9999 : Int32))]
            intro h; have h := Option.some.inj h; subst h
            exact kx_iret hX hE ok_Model_lateOf (nx := 110) rfl rfl ⟨Nat.le_of_ble_eq_true rfl, Nat.le_of_ble_eq_true rfl⟩
          · refine kx_sw0 ?_
            refine kx_go 3 (pc' := 98) (lv' := [.ref 88, .int x1, .int p1]) (st' := [.int x1, .ref 88, .int p1]) hX ok_Model_lateOf rfl ?_
            refine kx_bind (fun p16 hp16 => ?_)
            refine kx_V (r := 88) (as := [.int x1]) (by decide) hX ok_Model_lateOf (nx := 101) rfl l_Model_159 (by decide) rfl (fun _ => s_Model_dates (G := G) (d := 50) (Nat.le_refl _) C I x1 p16 hp16) (by omega) rfl (rest := [.int p1]) rfl (Nat.le_of_ble_eq_true rfl) ⟨Nat.le_of_ble_eq_true rfl, Nat.le_of_ble_eq_true rfl⟩ ?_
            show _ → kW G X m_Model_lateOf C p16.2 0 0 101 [.ref 88, .int x1, .int p1] [.int p16.1, .int p1]
            refine kx_go 3 (pc' := 106) (lv' := [.ref 88, .int x1, .int p1]) (st' := [.int (9999 : Int32), .int (0 : Int32), .int (p1 + p16.1)]) hX ok_Model_lateOf rfl ?_
            refine kx_S (as := [.int (p1 + p16.1), .int (0 : Int32), .int (9999 : Int32)]) hX ok_Model_lateOf (nx := 109) rfl l_Model_138 (fun _ => s_Model_held (G := G) (d := 0) (Nat.le_refl _) C p16.2 (p1 + p16.1) (0 : Int32) (9999 : Int32) _ rfl) (by omega) rfl (rest := []) rfl (Nat.le_of_ble_eq_true rfl) ⟨Nat.le_of_ble_eq_true rfl, Nat.le_of_ble_eq_true rfl⟩ ?_
            show _ → kW G X m_Model_lateOf C p16.2 0 0 109 [.ref 88, .int x1, .int p1] [.int (M_Model_held (p1 + p16.1) (0 : Int32) (9999 : Int32))]
            intro h; have h := Option.some.inj h; subst h
            exact kx_iret hX hE ok_Model_lateOf (nx := 110) rfl rfl ⟨Nat.le_of_ble_eq_true rfl, Nat.le_of_ble_eq_true rfl⟩
def M_Model_stuffOf (x0 : Int32) : Int32 := if (4 : Int32) ≤ x0 then ((x0 - (3 : Int32))) else (x0)
theorem s_Model_stuffOf {G : xG} {d : Nat} (hd : 0 ≤ d) (C : HC) (I : HI) (x0 : Int32)  (r : Int32) : M_Model_stuffOf x0 = r → kM G d m_Model_stuffOf [.int x0] C I 0 0 (some (.int r)) C I := by
  unfold M_Model_stuffOf
  refine kM.of (by decide +kernel) (Nat.le_of_ble_eq_true rfl) (lv := [.int x0]) rfl (fun X hX hE => ?_)
  refine kx_go 3 (pc' := if (4 : Int32) ≤ x0 then 9 else 5) (lv' := [.int x0]) (st' := []) hX ok_Model_stuffOf rfl ?_
  refine kx_ite (fun c1 => ?_) (fun c1 => ?_)
  · refine kx_go 3 (pc' := 12) (lv' := [.int x0]) (st' := [.int (x0 - (3 : Int32))]) hX ok_Model_stuffOf rfl ?_
    rintro rfl
    exact kx_iret hX hE ok_Model_stuffOf (nx := 13) rfl rfl ⟨Nat.le_of_ble_eq_true rfl, Nat.le_of_ble_eq_true rfl⟩
  · refine kx_go 2 (pc' := 12) (lv' := [.int x0]) (st' := [.int x0]) hX ok_Model_stuffOf rfl ?_
    rintro rfl
    exact kx_iret hX hE ok_Model_stuffOf (nx := 13) rfl rfl ⟨Nat.le_of_ble_eq_true rfl, Nat.le_of_ble_eq_true rfl⟩
def M_Model_stuff (I : HI) (x1 : Int32) : Option (Int32) := Option.bind (M_Model_of I x1 (0 : Int32)) fun p1 => some (M_Model_stuffOf p1)
theorem s_Model_stuff {G : xG} {d : Nat} (hd : 1 ≤ d) (C : HC) (I : HI) (x1 : Int32)  (r : Int32) : M_Model_stuff I x1 = some r → kM G d m_Model_stuff [.ref 88, .int x1] C I 0 0 (some (.int r)) C I := by
  unfold M_Model_stuff
  refine kM.of (by decide +kernel) (Nat.le_of_ble_eq_true rfl) (lv := [.ref 88, .int x1]) rfl (fun X hX hE => ?_)
  refine kx_go 3 (pc' := 3) (lv' := [.ref 88, .int x1]) (st' := [.int (0 : Int32), .int x1, .ref 88]) hX ok_Model_stuff rfl ?_
  refine kx_bind (fun p1 hp1 => ?_)
  refine kx_V (r := 88) (as := [.int x1, .int (0 : Int32)]) (by decide) hX ok_Model_stuff (nx := 6) rfl l_Model_155 (by decide) rfl (fun _ => s_Model_of (G := G) (d := 0) (Nat.le_refl _) C I x1 (0 : Int32) p1 hp1) (by omega) rfl (rest := []) rfl (Nat.le_of_ble_eq_true rfl) ⟨Nat.le_of_ble_eq_true rfl, Nat.le_of_ble_eq_true rfl⟩ ?_
  show _ → kW G X m_Model_stuff C I 0 0 6 [.ref 88, .int x1] [.int p1]
  refine kx_S (as := [.int p1]) hX ok_Model_stuff (nx := 9) rfl l_Model_162 (fun _ => s_Model_stuffOf (G := G) (d := 0) (Nat.le_refl _) C I p1 _ rfl) (by omega) rfl (rest := []) rfl (Nat.le_of_ble_eq_true rfl) ⟨Nat.le_of_ble_eq_true rfl, Nat.le_of_ble_eq_true rfl⟩ ?_
  show _ → kW G X m_Model_stuff C I 0 0 9 [.ref 88, .int x1] [.int (M_Model_stuffOf p1)]
  intro h; have h := Option.some.inj h; subst h
  exact kx_iret hX hE ok_Model_stuff (nx := 10) rfl rfl ⟨Nat.le_of_ble_eq_true rfl, Nat.le_of_ble_eq_true rfl⟩
