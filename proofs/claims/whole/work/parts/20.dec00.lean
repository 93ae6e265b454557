def M_Model_here (I : HI) : Option (Int32) := if (I 88 6) ≤ (I 88 5) then (some (-1 : Int32)) else (if (0 : Int32) ≤ (I 88 7) then (some (-1 : Int32)) else (grd (bnd ((I 88 4) + (I 88 5)) 270) (some (I 89 ((I 88 4) + (I 88 5)).toNatClampNeg))))
theorem s_Model_here {G : xG} {d : Nat} (hd : 0 ≤ d) (C : HC) (I : HI)   (r : Int32) : M_Model_here I = some r → kM G d m_Model_here [.ref 88] C I 0 0 (some (.int r)) C I := by
  unfold M_Model_here
  refine kM.of (by decide +kernel) (Nat.le_of_ble_eq_true rfl) (lv := [.ref 88]) rfl (fun X hX hE => ?_)
  refine kx_go 1 (pc' := 1) (lv' := [.ref 88]) (st' := [.ref 88]) hX ok_Model_here rfl ?_
  refine kx_geti hX ok_Model_here rfl (k := 5) (nx := 4) rfl ?_
  refine kx_go 1 (pc' := 5) (lv' := [.ref 88]) (st' := [.ref 88, .int (I 88 5)]) hX ok_Model_here rfl ?_
  refine kx_geti hX ok_Model_here rfl (k := 6) (nx := 8) rfl ?_
  refine kx_go 1 (pc' := if (I 88 6) ≤ (I 88 5) then 35 else 11) (lv' := [.ref 88]) (st' := []) hX ok_Model_here rfl ?_
  refine kx_ite (fun c1 => ?_) (fun c1 => ?_)
  · refine kx_go 1 (pc' := 36) (lv' := [.ref 88]) (st' := [.int (-1 : Int32)]) hX ok_Model_here rfl ?_
    intro h; have h := Option.some.inj h; subst h
    exact kx_iret hX hE ok_Model_here (nx := 37) rfl rfl ⟨Nat.le_of_ble_eq_true rfl, Nat.le_of_ble_eq_true rfl⟩
  · refine kx_go 1 (pc' := 12) (lv' := [.ref 88]) (st' := [.ref 88]) hX ok_Model_here rfl ?_
    refine kx_geti hX ok_Model_here rfl (k := 7) (nx := 15) rfl ?_
    refine kx_go 1 (pc' := if (0 : Int32) ≤ (I 88 7) then 35 else 18) (lv' := [.ref 88]) (st' := []) hX ok_Model_here rfl ?_
    refine kx_ite (fun c2 => ?_) (fun c2 => ?_)
    · refine kx_go 1 (pc' := 36) (lv' := [.ref 88]) (st' := [.int (-1 : Int32)]) hX ok_Model_here rfl ?_
      intro h; have h := Option.some.inj h; subst h
      exact kx_iret hX hE ok_Model_here (nx := 37) rfl rfl ⟨Nat.le_of_ble_eq_true rfl, Nat.le_of_ble_eq_true rfl⟩
    · refine kx_go 1 (pc' := 19) (lv' := [.ref 88]) (st' := [.ref 88]) hX ok_Model_here rfl ?_
      refine kx_getp hX ok_Model_here rfl (q := 89) (nx := 22) rfl ?_
      refine kx_go 1 (pc' := 23) (lv' := [.ref 88]) (st' := [.ref 88, .ref 89]) hX ok_Model_here rfl ?_
      refine kx_geti hX ok_Model_here rfl (k := 4) (nx := 26) rfl ?_
      refine kx_go 1 (pc' := 27) (lv' := [.ref 88]) (st' := [.ref 88, .int (I 88 4), .ref 89]) hX ok_Model_here rfl ?_
      refine kx_geti hX ok_Model_here rfl (k := 5) (nx := 30) rfl ?_
      refine kx_go 1 (pc' := 31) (lv' := [.ref 88]) (st' := [.int ((I 88 4) + (I 88 5)), .ref 89]) hX ok_Model_here rfl ?_
      refine kx_iald hX ok_Model_here (w := 270) (nx := 32) rfl (fun b3 => ?_)
      refine kx_go 1 (pc' := 36) (lv' := [.ref 88]) (st' := [.int (I 89 ((I 88 4) + (I 88 5)).toNatClampNeg)]) hX ok_Model_here rfl ?_
      intro h; have h := Option.some.inj h; subst h
      exact kx_iret hX hE ok_Model_here (nx := 37) rfl rfl ⟨Nat.le_of_ble_eq_true rfl, Nat.le_of_ble_eq_true rfl⟩
def M_Model_wrong (I : HI) : Int32 × HI := if (0 : Int32) ≤ (I 88 7) then (lt (xu I 88 7 (I 88 7)) fun J2 => ((0 : Int32), J2)) else (lt (xu I 88 7 (I 88 5)) fun J3 => ((0 : Int32), J3))
theorem s_Model_wrong {G : xG} {d : Nat} (hd : 0 ≤ d) (C : HC) (I : HI)   (r : Int32 × HI) : M_Model_wrong I = r → kM G d m_Model_wrong [.ref 88] C I 0 0 (some (.int r.1)) C r.2 := by
  unfold M_Model_wrong
  refine kM.of (by decide +kernel) (Nat.le_of_ble_eq_true rfl) (lv := [.ref 88]) rfl (fun X hX hE => ?_)
  refine kx_go 2 (pc' := 2) (lv' := [.ref 88]) (st' := [.ref 88, .ref 88]) hX ok_Model_wrong rfl ?_
  refine kx_geti hX ok_Model_wrong rfl (k := 7) (nx := 5) rfl ?_
  refine kx_go 1 (pc' := if (0 : Int32) ≤ (I 88 7) then 15 else 8) (lv' := [.ref 88]) (st' := [.ref 88]) hX ok_Model_wrong rfl ?_
  refine kx_ite (fun c1 => ?_) (fun c1 => ?_)
  · refine kx_go 1 (pc' := 16) (lv' := [.ref 88]) (st' := [.ref 88, .ref 88]) hX ok_Model_wrong rfl ?_
    refine kx_geti hX ok_Model_wrong rfl (k := 7) (nx := 19) rfl ?_
    refine kx_puti hX ok_Model_wrong rfl (k := 7) (nx := 22) rfl rfl ?_
    refine kx_lt (Q := fun J2 => kW G X m_Model_wrong C J2 0 0 22 [.ref 88] []) (fun J2 eJ2 => ?_)
    refine kx_go 1 (pc' := 23) (lv' := [.ref 88]) (st' := [.int (0 : Int32)]) hX ok_Model_wrong rfl ?_
    rintro rfl
    exact kx_iret hX hE ok_Model_wrong (nx := 24) rfl rfl ⟨Nat.le_of_ble_eq_true rfl, Nat.le_of_ble_eq_true rfl⟩
  · refine kx_go 1 (pc' := 9) (lv' := [.ref 88]) (st' := [.ref 88, .ref 88]) hX ok_Model_wrong rfl ?_
    refine kx_geti hX ok_Model_wrong rfl (k := 5) (nx := 12) rfl ?_
    refine kx_go 1 (pc' := 19) (lv' := [.ref 88]) (st' := [.int (I 88 5), .ref 88]) hX ok_Model_wrong rfl ?_
    refine kx_puti hX ok_Model_wrong rfl (k := 7) (nx := 22) rfl rfl ?_
    refine kx_lt (Q := fun J3 => kW G X m_Model_wrong C J3 0 0 22 [.ref 88] []) (fun J3 eJ3 => ?_)
    refine kx_go 1 (pc' := 23) (lv' := [.ref 88]) (st' := [.int (0 : Int32)]) hX ok_Model_wrong rfl ?_
    rintro rfl
    exact kx_iret hX hE ok_Model_wrong (nx := 24) rfl rfl ⟨Nat.le_of_ble_eq_true rfl, Nat.le_of_ble_eq_true rfl⟩
def L_Model_product_5 (u : HI → Option (Int32 × HI)) : Nat → Int32 → HI → Option (Int32 × HI)
  | 0, _, _ => none
  | f + 1, x1, I => Option.bind (M_Model_here I) fun p1 => if p1 = (42 : Int32) then (Option.bind (M_Model_here I) fun p3 => lt (xu I 88 5 ((I 88 5) + (1 : Int32))) fun J4 => Option.bind (u J4) fun p5 => if p3 = (42 : Int32) then (L_Model_product_5 u f (x1 * p5.1) p5.2) else (if p5.1 = (0 : Int32) then (L_Model_product_5 u f (0 : Int32) p5.2) else (if p3 = (47 : Int32) then (grd (decide (p5.1 ≠ 0)) (L_Model_product_5 u f (x1 / p5.1) p5.2)) else (grd (decide (p5.1 ≠ 0)) (L_Model_product_5 u f (x1 - x1 / p5.1 * p5.1) p5.2))))) else (Option.bind (M_Model_here I) fun p11 => if p11 = (47 : Int32) then (Option.bind (M_Model_here I) fun p13 => lt (xu I 88 5 ((I 88 5) + (1 : Int32))) fun J14 => Option.bind (u J14) fun p15 => if p13 = (42 : Int32) then (L_Model_product_5 u f (x1 * p15.1) p15.2) else (if p15.1 = (0 : Int32) then (L_Model_product_5 u f (0 : Int32) p15.2) else (if p13 = (47 : Int32) then (grd (decide (p15.1 ≠ 0)) (L_Model_product_5 u f (x1 / p15.1) p15.2)) else (grd (decide (p15.1 ≠ 0)) (L_Model_product_5 u f (x1 - x1 / p15.1 * p15.1) p15.2))))) else (Option.bind (M_Model_here I) fun p21 => if p21 = (37 : Int32) then (Option.bind (M_Model_here I) fun p23 => lt (xu I 88 5 ((I 88 5) + (1 : Int32))) fun J24 => Option.bind (u J24) fun p25 => if p23 = (42 : Int32) then (L_Model_product_5 u f (x1 * p25.1) p25.2) else (if p25.1 = (0 : Int32) then (L_Model_product_5 u f (0 : Int32) p25.2) else (if p23 = (47 : Int32) then (grd (decide (p25.1 ≠ 0)) (L_Model_product_5 u f (x1 / p25.1) p25.2)) else (grd (decide (p25.1 ≠ 0)) (L_Model_product_5 u f (x1 - x1 / p25.1 * p25.1) p25.2))))) else (some (x1, I))))
theorem s_L_Model_product_5 {G : xG} {X : xC} {d : Nat} {du : Nat} (hd : du + 1 ≤ d) (hX : xAmb G X m_Model_product d 0 0) (u : HI → Option (Int32 × HI)) (C : HC) (hu : ∀ (I : HI) (r : Int32 × HI), u I = some r → kM G du m_Model_unit [.ref 88] C I 0 0 (some (.int r.1)) C r.2) : ∀ (f : Nat) (x1 : Int32) (I : HI) (r : Int32 × HI), (kW G X m_Model_product C r.2 0 0 91 [.null, .int r.1, .null, .null] []) → L_Model_product_5 u f x1 I = some r → kW G X m_Model_product C I 0 0 5 [.ref 88, .int x1, .null, .null] [] := by
  intro f
  induction f with
  | zero => intro x1 I r hk h; rw [L_Model_product_5] at h; cases h
  | succ f ih =>
    intro x1 I r hk
    rw [L_Model_product_5]
    refine kx_go 1 (pc' := 6) (lv' := [.ref 88, .int x1, .null, .null]) (st' := [.ref 88]) hX ok_Model_product rfl ?_
    refine kx_bind (fun p1 hp1 => ?_)
    refine kx_V (r := 88) (as := []) (by decide) hX ok_Model_product (nx := 9) rfl l_Model_83 (by decide) rfl (fun _ => s_Model_here (G := G) (d := 0) (Nat.le_refl _) C I  p1 hp1) (by omega) rfl (rest := []) rfl (Nat.le_of_ble_eq_true rfl) ⟨Nat.le_of_ble_eq_true rfl, Nat.le_of_ble_eq_true rfl⟩ ?_
    show _ → kW G X m_Model_product C I 0 0 9 [.ref 88, .int x1, .null, .null] [.int p1]
    refine kx_go 2 (pc' := if p1 = (42 : Int32) then 32 else 14) (lv' := [.ref 88, .int x1, .null, .null]) (st' := []) hX ok_Model_product rfl ?_
    refine kx_ite (fun c2 => ?_) (fun c2 => ?_)
    · refine kx_go 1 (pc' := 33) (lv' := [.ref 88, .int x1, .null, .null]) (st' := [.ref 88]) hX ok_Model_product rfl ?_
      refine kx_bind (fun p3 hp3 => ?_)
      refine kx_V (r := 88) (as := []) (by decide) hX ok_Model_product (nx := 36) rfl l_Model_83 (by decide) rfl (fun _ => s_Model_here (G := G) (d := 0) (Nat.le_refl _) C I  p3 hp3) (by omega) rfl (rest := []) rfl (Nat.le_of_ble_eq_true rfl) ⟨Nat.le_of_ble_eq_true rfl, Nat.le_of_ble_eq_true rfl⟩ ?_
      show _ → kW G X m_Model_product C I 0 0 36 [.ref 88, .int x1, .null, .null] [.int p3]
      refine kx_go 3 (pc' := 39) (lv' := [.ref 88, .int x1, .int p3, .null]) (st' := [.ref 88, .ref 88]) hX ok_Model_product rfl ?_
      refine kx_geti hX ok_Model_product rfl (k := 5) (nx := 42) rfl ?_
      refine kx_go 2 (pc' := 44) (lv' := [.ref 88, .int x1, .int p3, .null]) (st' := [.int ((I 88 5) + (1 : Int32)), .ref 88]) hX ok_Model_product rfl ?_
      refine kx_puti hX ok_Model_product rfl (k := 5) (nx := 47) rfl rfl ?_
      refine kx_lt (Q := fun J4 => kW G X m_Model_product C J4 0 0 47 [.ref 88, .int x1, .int p3, .null] []) (fun J4 eJ4 => ?_)
      refine kx_go 1 (pc' := 48) (lv' := [.ref 88, .int x1, .int p3, .null]) (st' := [.ref 88]) hX ok_Model_product rfl ?_
      refine kx_bind (fun p5 hp5 => ?_)
      refine kx_V (r := 88) (as := []) (by decide) hX ok_Model_product (nx := 51) rfl l_Model_107 (by decide) rfl (fun _ => hu J4 p5 hp5) (by omega) rfl (rest := []) rfl (Nat.le_of_ble_eq_true rfl) ⟨Nat.le_of_ble_eq_true rfl, Nat.le_of_ble_eq_true rfl⟩ ?_
      show _ → kW G X m_Model_product C p5.2 0 0 51 [.ref 88, .int x1, .int p3, .null] [.int p5.1]
      refine kx_go 4 (pc' := if p3 = (42 : Int32) then 58 else 64) (lv' := [.ref 88, .int x1, .int p3, .int p5.1]) (st' := []) hX ok_Model_product rfl ?_
      refine kx_ite (fun c6 => ?_) (fun c6 => ?_)
      · refine kx_go 6 (pc' := 5) (lv' := [.ref 88, .int (x1 * p5.1), .int p3, .int p5.1]) (st' := []) hX ok_Model_product rfl ?_
        refine kx_weak (lv' := [.ref 88, .int (x1 * p5.1), .null, .null]) (by simp [xsub]) ?_
        exact fun h => ih (x1 * p5.1) p5.2 r hk h
      · refine kx_go 2 (pc' := if p5.1 = (0 : Int32) then 68 else 72) (lv' := [.ref 88, .int x1, .int p3, .int p5.1]) (st' := []) hX ok_Model_product rfl ?_
        refine kx_ite (fun c7 => ?_) (fun c7 => ?_)
        · refine kx_go 4 (pc' := 5) (lv' := [.ref 88, .int (0 : Int32), .int p3, .int p5.1]) (st' := []) hX ok_Model_product rfl ?_
          refine kx_weak (lv' := [.ref 88, .int (0 : Int32), .null, .null]) (by simp [xsub]) ?_
          exact fun h => ih (0 : Int32) p5.2 r hk h
        · refine kx_go 3 (pc' := if p3 = (47 : Int32) then 78 else 84) (lv' := [.ref 88, .int x1, .int p3, .int p5.1]) (st' := []) hX ok_Model_product rfl ?_
          refine kx_ite (fun c8 => ?_) (fun c8 => ?_)
          · refine kx_go 2 (pc' := 80) (lv' := [.ref 88, .int x1, .int p3, .int p5.1]) (st' := [.int p5.1, .int x1]) hX ok_Model_product rfl ?_
            refine kx_idiv hX ok_Model_product (nx := 81) rfl (fun h9 => ?_)
            refine kx_go 3 (pc' := 5) (lv' := [.ref 88, .int (x1 / p5.1), .int p3, .int p5.1]) (st' := []) hX ok_Model_product rfl ?_
            refine kx_weak (lv' := [.ref 88, .int (x1 / p5.1), .null, .null]) (by simp [xsub]) ?_
            exact fun h => ih (x1 / p5.1) p5.2 r hk h
          · refine kx_go 2 (pc' := 86) (lv' := [.ref 88, .int x1, .int p3, .int p5.1]) (st' := [.int p5.1, .int x1]) hX ok_Model_product rfl ?_
            refine kx_irem hX ok_Model_product (nx := 87) rfl (fun h10 => ?_)
            refine kx_go 2 (pc' := 5) (lv' := [.ref 88, .int (x1 - x1 / p5.1 * p5.1), .int p3, .int p5.1]) (st' := []) hX ok_Model_product rfl ?_
            refine kx_weak (lv' := [.ref 88, .int (x1 - x1 / p5.1 * p5.1), .null, .null]) (by simp [xsub]) ?_
            exact fun h => ih (x1 - x1 / p5.1 * p5.1) p5.2 r hk h
    · refine kx_go 1 (pc' := 15) (lv' := [.ref 88, .int x1, .null, .null]) (st' := [.ref 88]) hX ok_Model_product rfl ?_
      refine kx_bind (fun p11 hp11 => ?_)
      refine kx_V (r := 88) (as := []) (by decide) hX ok_Model_product (nx := 18) rfl l_Model_83 (by decide) rfl (fun _ => s_Model_here (G := G) (d := 0) (Nat.le_refl _) C I  p11 hp11) (by omega) rfl (rest := []) rfl (Nat.le_of_ble_eq_true rfl) ⟨Nat.le_of_ble_eq_true rfl, Nat.le_of_ble_eq_true rfl⟩ ?_
      show _ → kW G X m_Model_product C I 0 0 18 [.ref 88, .int x1, .null, .null] [.int p11]
      refine kx_go 2 (pc' := if p11 = (47 : Int32) then 32 else 23) (lv' := [.ref 88, .int x1, .null, .null]) (st' := []) hX ok_Model_product rfl ?_
      refine kx_ite (fun c12 => ?_) (fun c12 => ?_)
      · refine kx_go 1 (pc' := 33) (lv' := [.ref 88, .int x1, .null, .null]) (st' := [.ref 88]) hX ok_Model_product rfl ?_
        refine kx_bind (fun p13 hp13 => ?_)
        refine kx_V (r := 88) (as := []) (by decide) hX ok_Model_product (nx := 36) rfl l_Model_83 (by decide) rfl (fun _ => s_Model_here (G := G) (d := 0) (Nat.le_refl _) C I  p13 hp13) (by omega) rfl (rest := []) rfl (Nat.le_of_ble_eq_true rfl) ⟨Nat.le_of_ble_eq_true rfl, Nat.le_of_ble_eq_true rfl⟩ ?_
        show _ → kW G X m_Model_product C I 0 0 36 [.ref 88, .int x1, .null, .null] [.int p13]
        refine kx_go 3 (pc' := 39) (lv' := [.ref 88, .int x1, .int p13, .null]) (st' := [.ref 88, .ref 88]) hX ok_Model_product rfl ?_
        refine kx_geti hX ok_Model_product rfl (k := 5) (nx := 42) rfl ?_
        refine kx_go 2 (pc' := 44) (lv' := [.ref 88, .int x1, .int p13, .null]) (st' := [.int ((I 88 5) + (1 : Int32)), .ref 88]) hX ok_Model_product rfl ?_
        refine kx_puti hX ok_Model_product rfl (k := 5) (nx := 47) rfl rfl ?_
        refine kx_lt (Q := fun J14 => kW G X m_Model_product C J14 0 0 47 [.ref 88, .int x1, .int p13, .null] []) (fun J14 eJ14 => ?_)
        refine kx_go 1 (pc' := 48) (lv' := [.ref 88, .int x1, .int p13, .null]) (st' := [.ref 88]) hX ok_Model_product rfl ?_
        refine kx_bind (fun p15 hp15 => ?_)
        refine kx_V (r := 88) (as := []) (by decide) hX ok_Model_product (nx := 51) rfl l_Model_107 (by decide) rfl (fun _ => hu J14 p15 hp15) (by omega) rfl (rest := []) rfl (Nat.le_of_ble_eq_true rfl) ⟨Nat.le_of_ble_eq_true rfl, Nat.le_of_ble_eq_true rfl⟩ ?_
        show _ → kW G X m_Model_product C p15.2 0 0 51 [.ref 88, .int x1, .int p13, .null] [.int p15.1]
        refine kx_go 4 (pc' := if p13 = (42 : Int32) then 58 else 64) (lv' := [.ref 88, .int x1, .int p13, .int p15.1]) (st' := []) hX ok_Model_product rfl ?_
        refine kx_ite (fun c16 => ?_) (fun c16 => ?_)
        · refine kx_go 6 (pc' := 5) (lv' := [.ref 88, .int (x1 * p15.1), .int p13, .int p15.1]) (st' := []) hX ok_Model_product rfl ?_
          refine kx_weak (lv' := [.ref 88, .int (x1 * p15.1), .null, .null]) (by simp [xsub]) ?_
          exact fun h => ih (x1 * p15.1) p15.2 r hk h
        · refine kx_go 2 (pc' := if p15.1 = (0 : Int32) then 68 else 72) (lv' := [.ref 88, .int x1, .int p13, .int p15.1]) (st' := []) hX ok_Model_product rfl ?_
          refine kx_ite (fun c17 => ?_) (fun c17 => ?_)
          · refine kx_go 4 (pc' := 5) (lv' := [.ref 88, .int (0 : Int32), .int p13, .int p15.1]) (st' := []) hX ok_Model_product rfl ?_
            refine kx_weak (lv' := [.ref 88, .int (0 : Int32), .null, .null]) (by simp [xsub]) ?_
            exact fun h => ih (0 : Int32) p15.2 r hk h
          · refine kx_go 3 (pc' := if p13 = (47 : Int32) then 78 else 84) (lv' := [.ref 88, .int x1, .int p13, .int p15.1]) (st' := []) hX ok_Model_product rfl ?_
            refine kx_ite (fun c18 => ?_) (fun c18 => ?_)
            · refine kx_go 2 (pc' := 80) (lv' := [.ref 88, .int x1, .int p13, .int p15.1]) (st' := [.int p15.1, .int x1]) hX ok_Model_product rfl ?_
              refine kx_idiv hX ok_Model_product (nx := 81) rfl (fun h19 => ?_)
              refine kx_go 3 (pc' := 5) (lv' := [.ref 88, .int (x1 / p15.1), .int p13, .int p15.1]) (st' := []) hX ok_Model_product rfl ?_
              refine kx_weak (lv' := [.ref 88, .int (x1 / p15.1), .null, .null]) (by simp [xsub]) ?_
              exact fun h => ih (x1 / p15.1) p15.2 r hk h
            · refine kx_go 2 (pc' := 86) (lv' := [.ref 88, .int x1, .int p13, .int p15.1]) (st' := [.int p15.1, .int x1]) hX ok_Model_product rfl ?_
              refine kx_irem hX ok_Model_product (nx := 87) rfl (fun h20 => ?_)
              refine kx_go 2 (pc' := 5) (lv' := [.ref 88, .int (x1 - x1 / p15.1 * p15.1), .int p13, .int p15.1]) (st' := []) hX ok_Model_product rfl ?_
              refine kx_weak (lv' := [.ref 88, .int (x1 - x1 / p15.1 * p15.1), .null, .null]) (by simp [xsub]) ?_
              exact fun h => ih (x1 - x1 / p15.1 * p15.1) p15.2 r hk h
      · refine kx_go 1 (pc' := 24) (lv' := [.ref 88, .int x1, .null, .null]) (st' := [.ref 88]) hX ok_Model_product rfl ?_
        refine kx_bind (fun p21 hp21 => ?_)
        refine kx_V (r := 88) (as := []) (by decide) hX ok_Model_product (nx := 27) rfl l_Model_83 (by decide) rfl (fun _ => s_Model_here (G := G) (d := 0) (Nat.le_refl _) C I  p21 hp21) (by omega) rfl (rest := []) rfl (Nat.le_of_ble_eq_true rfl) ⟨Nat.le_of_ble_eq_true rfl, Nat.le_of_ble_eq_true rfl⟩ ?_
        show _ → kW G X m_Model_product C I 0 0 27 [.ref 88, .int x1, .null, .null] [.int p21]
        refine kx_go 2 (pc' := if p21 = (37 : Int32) then 32 else 91) (lv' := [.ref 88, .int x1, .null, .null]) (st' := []) hX ok_Model_product rfl ?_
        refine kx_ite (fun c22 => ?_) (fun c22 => ?_)
        · refine kx_go 1 (pc' := 33) (lv' := [.ref 88, .int x1, .null, .null]) (st' := [.ref 88]) hX ok_Model_product rfl ?_
          refine kx_bind (fun p23 hp23 => ?_)
          refine kx_V (r := 88) (as := []) (by decide) hX ok_Model_product (nx := 36) rfl l_Model_83 (by decide) rfl (fun _ => s_Model_here (G := G) (d := 0) (Nat.le_refl _) C I  p23 hp23) (by omega) rfl (rest := []) rfl (Nat.le_of_ble_eq_true rfl) ⟨Nat.le_of_ble_eq_true rfl, Nat.le_of_ble_eq_true rfl⟩ ?_
          show _ → kW G X m_Model_product C I 0 0 36 [.ref 88, .int x1, .null, .null] [.int p23]
          refine kx_go 3 (pc' := 39) (lv' := [.ref 88, .int x1, .int p23, .null]) (st' := [.ref 88, .ref 88]) hX ok_Model_product rfl ?_
          refine kx_geti hX ok_Model_product rfl (k := 5) (nx := 42) rfl ?_
          refine kx_go 2 (pc' := 44) (lv' := [.ref 88, .int x1, .int p23, .null]) (st' := [.int ((I 88 5) + (1 : Int32)), .ref 88]) hX ok_Model_product rfl ?_
          refine kx_puti hX ok_Model_product rfl (k := 5) (nx := 47) rfl rfl ?_
          refine kx_lt (Q := fun J24 => kW G X m_Model_product C J24 0 0 47 [.ref 88, .int x1, .int p23, .null] []) (fun J24 eJ24 => ?_)
          refine kx_go 1 (pc' := 48) (lv' := [.ref 88, .int x1, .int p23, .null]) (st' := [.ref 88]) hX ok_Model_product rfl ?_
          refine kx_bind (fun p25 hp25 => ?_)
          refine kx_V (r := 88) (as := []) (by decide) hX ok_Model_product (nx := 51) rfl l_Model_107 (by decide) rfl (fun _ => hu J24 p25 hp25) (by omega) rfl (rest := []) rfl (Nat.le_of_ble_eq_true rfl) ⟨Nat.le_of_ble_eq_true rfl, Nat.le_of_ble_eq_true rfl⟩ ?_
          show _ → kW G X m_Model_product C p25.2 0 0 51 [.ref 88, .int x1, .int p23, .null] [.int p25.1]
          refine kx_go 4 (pc' := if p23 = (42 : Int32) then 58 else 64) (lv' := [.ref 88, .int x1, .int p23, .int p25.1]) (st' := []) hX ok_Model_product rfl ?_
          refine kx_ite (fun c26 => ?_) (fun c26 => ?_)
          · refine kx_go 6 (pc' := 5) (lv' := [.ref 88, .int (x1 * p25.1), .int p23, .int p25.1]) (st' := []) hX ok_Model_product rfl ?_
            refine kx_weak (lv' := [.ref 88, .int (x1 * p25.1), .null, .null]) (by simp [xsub]) ?_
            exact fun h => ih (x1 * p25.1) p25.2 r hk h
          · refine kx_go 2 (pc' := if p25.1 = (0 : Int32) then 68 else 72) (lv' := [.ref 88, .int x1, .int p23, .int p25.1]) (st' := []) hX ok_Model_product rfl ?_
            refine kx_ite (fun c27 => ?_) (fun c27 => ?_)
            · refine kx_go 4 (pc' := 5) (lv' := [.ref 88, .int (0 : Int32), .int p23, .int p25.1]) (st' := []) hX ok_Model_product rfl ?_
              refine kx_weak (lv' := [.ref 88, .int (0 : Int32), .null, .null]) (by simp [xsub]) ?_
              exact fun h => ih (0 : Int32) p25.2 r hk h
            · refine kx_go 3 (pc' := if p23 = (47 : Int32) then 78 else 84) (lv' := [.ref 88, .int x1, .int p23, .int p25.1]) (st' := []) hX ok_Model_product rfl ?_
              refine kx_ite (fun c28 => ?_) (fun c28 => ?_)
              · refine kx_go 2 (pc' := 80) (lv' := [.ref 88, .int x1, .int p23, .int p25.1]) (st' := [.int p25.1, .int x1]) hX ok_Model_product rfl ?_
                refine kx_idiv hX ok_Model_product (nx := 81) rfl (fun h29 => ?_)
                refine kx_go 3 (pc' := 5) (lv' := [.ref 88, .int (x1 / p25.1), .int p23, .int p25.1]) (st' := []) hX ok_Model_product rfl ?_
                refine kx_weak (lv' := [.ref 88, .int (x1 / p25.1), .null, .null]) (by simp [xsub]) ?_
                exact fun h => ih (x1 / p25.1) p25.2 r hk h
              · refine kx_go 2 (pc' := 86) (lv' := [.ref 88, .int x1, .int p23, .int p25.1]) (st' := [.int p25.1, .int x1]) hX ok_Model_product rfl ?_
                refine kx_irem hX ok_Model_product (nx := 87) rfl (fun h30 => ?_)
                refine kx_go 2 (pc' := 5) (lv' := [.ref 88, .int (x1 - x1 / p25.1 * p25.1), .int p23, .int p25.1]) (st' := []) hX ok_Model_product rfl ?_
                refine kx_weak (lv' := [.ref 88, .int (x1 - x1 / p25.1 * p25.1), .null, .null]) (by simp [xsub]) ?_
                exact fun h => ih (x1 - x1 / p25.1 * p25.1) p25.2 r hk h
        · refine kx_weak (lv' := [.null, .int x1, .null, .null]) (by simp [xsub]) ?_
          intro h; have h := Option.some.inj h; subst h
          exact hk
def M_Model_product (u : HI → Option (Int32 × HI)) (I : HI) : Option (Int32 × HI) := Option.bind (u I) fun p1 => Option.bind (L_Model_product_5 u 1000 p1.1 p1.2) fun p2 => some (p2.1, p2.2)
theorem s_Model_product {G : xG} {d : Nat} {du : Nat} (hd : du + 1 ≤ d) (u : HI → Option (Int32 × HI)) (C : HC) (I : HI)   (hu : ∀ (I : HI) (r : Int32 × HI), u I = some r → kM G du m_Model_unit [.ref 88] C I 0 0 (some (.int r.1)) C r.2) (r : Int32 × HI) : M_Model_product u I = some r → kM G d m_Model_product [.ref 88] C I 0 0 (some (.int r.1)) C r.2 := by
  unfold M_Model_product
  refine kM.of (by decide +kernel) (Nat.le_of_ble_eq_true rfl) (lv := [.ref 88, .null, .null, .null]) rfl (fun X hX hE => ?_)
  refine kx_go 1 (pc' := 1) (lv' := [.ref 88, .null, .null, .null]) (st' := [.ref 88]) hX ok_Model_product rfl ?_
  refine kx_bind (fun p1 hp1 => ?_)
  refine kx_V (r := 88) (as := []) (by decide) hX ok_Model_product (nx := 4) rfl l_Model_107 (by decide) rfl (fun _ => hu I p1 hp1) (by omega) rfl (rest := []) rfl (Nat.le_of_ble_eq_true rfl) ⟨Nat.le_of_ble_eq_true rfl, Nat.le_of_ble_eq_true rfl⟩ ?_
  show _ → kW G X m_Model_product C p1.2 0 0 4 [.ref 88, .null, .null, .null] [.int p1.1]
  refine kx_go 1 (pc' := 5) (lv' := [.ref 88, .int p1.1, .null, .null]) (st' := []) hX ok_Model_product rfl ?_
  refine kx_bind (fun p2 hp2 => ?_)
  refine kx_via (fun hk => s_L_Model_product_5 (G := G) (X := X) (by omega) hX u C hu 1000 p1.1 p1.2 p2 hk hp2) ?_
  refine kx_go 1 (pc' := 92) (lv' := [.null, .int p2.1, .null, .null]) (st' := [.int p2.1]) hX ok_Model_product rfl ?_
  intro h; have h := Option.some.inj h; subst h
  exact kx_iret hX hE ok_Model_product (nx := 93) rfl rfl ⟨Nat.le_of_ble_eq_true rfl, Nat.le_of_ble_eq_true rfl⟩
def L_Model_sum_5 (u : HI → Option (Int32 × HI)) : Nat → Int32 → HI → Option (Int32 × HI)
  | 0, _, _ => none
  | f + 1, x1, I => Option.bind (M_Model_here I) fun p1 => if p1 = (43 : Int32) then (Option.bind (M_Model_here I) fun p3 => lt (xu I 88 5 ((I 88 5) + (1 : Int32))) fun J4 => Option.bind (M_Model_product u J4) fun p5 => if p3 = (43 : Int32) then (L_Model_sum_5 u f (x1 + p5.1) p5.2) else (L_Model_sum_5 u f (x1 - p5.1) p5.2)) else (Option.bind (M_Model_here I) fun p7 => if p7 = (45 : Int32) then (Option.bind (M_Model_here I) fun p9 => lt (xu I 88 5 ((I 88 5) + (1 : Int32))) fun J10 => Option.bind (M_Model_product u J10) fun p11 => if p9 = (43 : Int32) then (L_Model_sum_5 u f (x1 + p11.1) p11.2) else (L_Model_sum_5 u f (x1 - p11.1) p11.2)) else (some (x1, I)))
theorem s_L_Model_sum_5 {G : xG} {X : xC} {d : Nat} {du : Nat} (hd : du + 2 ≤ d) (hX : xAmb G X m_Model_sum d 0 0) (u : HI → Option (Int32 × HI)) (C : HC) (hu : ∀ (I : HI) (r : Int32 × HI), u I = some r → kM G du m_Model_unit [.ref 88] C I 0 0 (some (.int r.1)) C r.2) : ∀ (f : Nat) (x1 : Int32) (I : HI) (r : Int32 × HI), (kW G X m_Model_sum C r.2 0 0 62 [.null, .int r.1, .null, .null] []) → L_Model_sum_5 u f x1 I = some r → kW G X m_Model_sum C I 0 0 5 [.ref 88, .int x1, .null, .null] [] := by
  intro f
  induction f with
  | zero => intro x1 I r hk h; rw [L_Model_sum_5] at h; cases h
  | succ f ih =>
    intro x1 I r hk
    rw [L_Model_sum_5]
    refine kx_go 1 (pc' := 6) (lv' := [.ref 88, .int x1, .null, .null]) (st' := [.ref 88]) hX ok_Model_sum rfl ?_
    refine kx_bind (fun p1 hp1 => ?_)
    refine kx_V (r := 88) (as := []) (by decide) hX ok_Model_sum (nx := 9) rfl l_Model_83 (by decide) rfl (fun _ => s_Model_here (G := G) (d := 0) (Nat.le_refl _) C I  p1 hp1) (by omega) rfl (rest := []) rfl (Nat.le_of_ble_eq_true rfl) ⟨Nat.le_of_ble_eq_true rfl, Nat.le_of_ble_eq_true rfl⟩ ?_
    show _ → kW G X m_Model_sum C I 0 0 9 [.ref 88, .int x1, .null, .null] [.int p1]
    refine kx_go 2 (pc' := if p1 = (43 : Int32) then 23 else 14) (lv' := [.ref 88, .int x1, .null, .null]) (st' := []) hX ok_Model_sum rfl ?_
    refine kx_ite (fun c2 => ?_) (fun c2 => ?_)
    · refine kx_go 1 (pc' := 24) (lv' := [.ref 88, .int x1, .null, .null]) (st' := [.ref 88]) hX ok_Model_sum rfl ?_
      refine kx_bind (fun p3 hp3 => ?_)
      refine kx_V (r := 88) (as := []) (by decide) hX ok_Model_sum (nx := 27) rfl l_Model_83 (by decide) rfl (fun _ => s_Model_here (G := G) (d := 0) (Nat.le_refl _) C I  p3 hp3) (by omega) rfl (rest := []) rfl (Nat.le_of_ble_eq_true rfl) ⟨Nat.le_of_ble_eq_true rfl, Nat.le_of_ble_eq_true rfl⟩ ?_
      show _ → kW G X m_Model_sum C I 0 0 27 [.ref 88, .int x1, .null, .null] [.int p3]
      refine kx_go 3 (pc' := 30) (lv' := [.ref 88, .int x1, .int p3, .null]) (st' := [.ref 88, .ref 88]) hX ok_Model_sum rfl ?_
      refine kx_geti hX ok_Model_sum rfl (k := 5) (nx := 33) rfl ?_
      refine kx_go 2 (pc' := 35) (lv' := [.ref 88, .int x1, .int p3, .null]) (st' := [.int ((I 88 5) + (1 : Int32)), .ref 88]) hX ok_Model_sum rfl ?_
      refine kx_puti hX ok_Model_sum rfl (k := 5) (nx := 38) rfl rfl ?_
      refine kx_lt (Q := fun J4 => kW G X m_Model_sum C J4 0 0 38 [.ref 88, .int x1, .int p3, .null] []) (fun J4 eJ4 => ?_)
      refine kx_go 1 (pc' := 39) (lv' := [.ref 88, .int x1, .int p3, .null]) (st' := [.ref 88]) hX ok_Model_sum rfl ?_
      refine kx_bind (fun p5 hp5 => ?_)
      refine kx_V (r := 88) (as := []) (by decide) hX ok_Model_sum (nx := 42) rfl l_Model_104 (by decide) rfl (fun _ => s_Model_product (G := G) (d := du + 1) (Nat.le_refl _) u C J4  hu p5 hp5) (by omega) rfl (rest := []) rfl (Nat.le_of_ble_eq_true rfl) ⟨Nat.le_of_ble_eq_true rfl, Nat.le_of_ble_eq_true rfl⟩ ?_
      show _ → kW G X m_Model_sum C p5.2 0 0 42 [.ref 88, .int x1, .int p3, .null] [.int p5.1]
      refine kx_go 4 (pc' := if p3 = (43 : Int32) then 49 else 55) (lv' := [.ref 88, .int x1, .int p3, .int p5.1]) (st' := []) hX ok_Model_sum rfl ?_
      refine kx_ite (fun c6 => ?_) (fun c6 => ?_)
      · refine kx_go 6 (pc' := 5) (lv' := [.ref 88, .int (x1 + p5.1), .int p3, .int p5.1]) (st' := []) hX ok_Model_sum rfl ?_
        refine kx_weak (lv' := [.ref 88, .int (x1 + p5.1), .null, .null]) (by simp [xsub]) ?_
        exact fun h => ih (x1 + p5.1) p5.2 r hk h
      · refine kx_go 5 (pc' := 5) (lv' := [.ref 88, .int (x1 - p5.1), .int p3, .int p5.1]) (st' := []) hX ok_Model_sum rfl ?_
        refine kx_weak (lv' := [.ref 88, .int (x1 - p5.1), .null, .null]) (by simp [xsub]) ?_
        exact fun h => ih (x1 - p5.1) p5.2 r hk h
    · refine kx_go 1 (pc' := 15) (lv' := [.ref 88, .int x1, .null, .null]) (st' := [.ref 88]) hX ok_Model_sum rfl ?_
      refine kx_bind (fun p7 hp7 => ?_)
      refine kx_V (r := 88) (as := []) (by decide) hX ok_Model_sum (nx := 18) rfl l_Model_83 (by decide) rfl (fun _ => s_Model_here (G := G) (d := 0) (Nat.le_refl _) C I  p7 hp7) (by omega) rfl (rest := []) rfl (Nat.le_of_ble_eq_true rfl) ⟨Nat.le_of_ble_eq_true rfl, Nat.le_of_ble_eq_true rfl⟩ ?_
      show _ → kW G X m_Model_sum C I 0 0 18 [.ref 88, .int x1, .null, .null] [.int p7]
      refine kx_go 2 (pc' := if p7 = (45 : Int32) then 23 else 62) (lv' := [.ref 88, .int x1, .null, .null]) (st' := []) hX ok_Model_sum rfl ?_
      refine kx_ite (fun c8 => ?_) (fun c8 => ?_)
      · refine kx_go 1 (pc' := 24) (lv' := [.ref 88, .int x1, .null, .null]) (st' := [.ref 88]) hX ok_Model_sum rfl ?_
        refine kx_bind (fun p9 hp9 => ?_)
        refine kx_V (r := 88) (as := []) (by decide) hX ok_Model_sum (nx := 27) rfl l_Model_83 (by decide) rfl (fun _ => s_Model_here (G := G) (d := 0) (Nat.le_refl _) C I  p9 hp9) (by omega) rfl (rest := []) rfl (Nat.le_of_ble_eq_true rfl) ⟨Nat.le_of_ble_eq_true rfl, Nat.le_of_ble_eq_true rfl⟩ ?_
        show _ → kW G X m_Model_sum C I 0 0 27 [.ref 88, .int x1, .null, .null] [.int p9]
        refine kx_go 3 (pc' := 30) (lv' := [.ref 88, .int x1, .int p9, .null]) (st' := [.ref 88, .ref 88]) hX ok_Model_sum rfl ?_
        refine kx_geti hX ok_Model_sum rfl (k := 5) (nx := 33) rfl ?_
        refine kx_go 2 (pc' := 35) (lv' := [.ref 88, .int x1, .int p9, .null]) (st' := [.int ((I 88 5) + (1 : Int32)), .ref 88]) hX ok_Model_sum rfl ?_
        refine kx_puti hX ok_Model_sum rfl (k := 5) (nx := 38) rfl rfl ?_
        refine kx_lt (Q := fun J10 => kW G X m_Model_sum C J10 0 0 38 [.ref 88, .int x1, .int p9, .null] []) (fun J10 eJ10 => ?_)
        refine kx_go 1 (pc' := 39) (lv' := [.ref 88, .int x1, .int p9, .null]) (st' := [.ref 88]) hX ok_Model_sum rfl ?_
        refine kx_bind (fun p11 hp11 => ?_)
        refine kx_V (r := 88) (as := []) (by decide) hX ok_Model_sum (nx := 42) rfl l_Model_104 (by decide) rfl (fun _ => s_Model_product (G := G) (d := du + 1) (Nat.le_refl _) u C J10  hu p11 hp11) (by omega) rfl (rest := []) rfl (Nat.le_of_ble_eq_true rfl) ⟨Nat.le_of_ble_eq_true rfl, Nat.le_of_ble_eq_true rfl⟩ ?_
        show _ → kW G X m_Model_sum C p11.2 0 0 42 [.ref 88, .int x1, .int p9, .null] [.int p11.1]
        refine kx_go 4 (pc' := if p9 = (43 : Int32) then 49 else 55) (lv' := [.ref 88, .int x1, .int p9, .int p11.1]) (st' := []) hX ok_Model_sum rfl ?_
        refine kx_ite (fun c12 => ?_) (fun c12 => ?_)
        · refine kx_go 6 (pc' := 5) (lv' := [.ref 88, .int (x1 + p11.1), .int p9, .int p11.1]) (st' := []) hX ok_Model_sum rfl ?_
          refine kx_weak (lv' := [.ref 88, .int (x1 + p11.1), .null, .null]) (by simp [xsub]) ?_
          exact fun h => ih (x1 + p11.1) p11.2 r hk h
        · refine kx_go 5 (pc' := 5) (lv' := [.ref 88, .int (x1 - p11.1), .int p9, .int p11.1]) (st' := []) hX ok_Model_sum rfl ?_
          refine kx_weak (lv' := [.ref 88, .int (x1 - p11.1), .null, .null]) (by simp [xsub]) ?_
          exact fun h => ih (x1 - p11.1) p11.2 r hk h
      · refine kx_weak (lv' := [.null, .int x1, .null, .null]) (by simp [xsub]) ?_
        intro h; have h := Option.some.inj h; subst h
        exact hk
def M_Model_sum (u : HI → Option (Int32 × HI)) (I : HI) : Option (Int32 × HI) := Option.bind (M_Model_product u I) fun p1 => Option.bind (L_Model_sum_5 u 1000 p1.1 p1.2) fun p2 => some (p2.1, p2.2)
theorem s_Model_sum {G : xG} {d : Nat} {du : Nat} (hd : du + 2 ≤ d) (u : HI → Option (Int32 × HI)) (C : HC) (I : HI)   (hu : ∀ (I : HI) (r : Int32 × HI), u I = some r → kM G du m_Model_unit [.ref 88] C I 0 0 (some (.int r.1)) C r.2) (r : Int32 × HI) : M_Model_sum u I = some r → kM G d m_Model_sum [.ref 88] C I 0 0 (some (.int r.1)) C r.2 := by
  unfold M_Model_sum
  refine kM.of (by decide +kernel) (Nat.le_of_ble_eq_true rfl) (lv := [.ref 88, .null, .null, .null]) rfl (fun X hX hE => ?_)
  refine kx_go 1 (pc' := 1) (lv' := [.ref 88, .null, .null, .null]) (st' := [.ref 88]) hX ok_Model_sum rfl ?_
  refine kx_bind (fun p1 hp1 => ?_)
  refine kx_V (r := 88) (as := []) (by decide) hX ok_Model_sum (nx := 4) rfl l_Model_104 (by decide) rfl (fun _ => s_Model_product (G := G) (d := du + 1) (Nat.le_refl _) u C I  hu p1 hp1) (by omega) rfl (rest := []) rfl (Nat.le_of_ble_eq_true rfl) ⟨Nat.le_of_ble_eq_true rfl, Nat.le_of_ble_eq_true rfl⟩ ?_
  show _ → kW G X m_Model_sum C p1.2 0 0 4 [.ref 88, .null, .null, .null] [.int p1.1]
  refine kx_go 1 (pc' := 5) (lv' := [.ref 88, .int p1.1, .null, .null]) (st' := []) hX ok_Model_sum rfl ?_
  refine kx_bind (fun p2 hp2 => ?_)
  refine kx_via (fun hk => s_L_Model_sum_5 (G := G) (X := X) (by omega) hX u C hu 1000 p1.1 p1.2 p2 hk hp2) ?_
  refine kx_go 1 (pc' := 63) (lv' := [.null, .int p2.1, .null, .null]) (st' := [.int p2.1]) hX ok_Model_sum rfl ?_
  intro h; have h := Option.some.inj h; subst h
  exact kx_iret hX hE ok_Model_sum (nx := 64) rfl rfl ⟨Nat.le_of_ble_eq_true rfl, Nat.le_of_ble_eq_true rfl⟩
def M_Model_compared (u : HI → Option (Int32 × HI)) (I : HI) : Option (Int32 × HI) := Option.bind (M_Model_sum u I) fun p1 => Option.bind (M_Model_here p1.2) fun p2 => if p2 = (60 : Int32) then (lt (xu p1.2 88 5 ((p1.2 88 5) + (1 : Int32))) fun J4 => Option.bind (M_Model_sum u J4) fun p5 => if p5.1 ≤ p1.1 then (some ((0 : Int32), p5.2)) else (some ((1 : Int32), p5.2))) else (if p2 = (61 : Int32) then (lt (xu p1.2 88 5 ((p1.2 88 5) + (1 : Int32))) fun J8 => Option.bind (M_Model_sum u J8) fun p9 => if p1.1 = p9.1 then (some ((1 : Int32), p9.2)) else (some ((0 : Int32), p9.2))) else (if p2 = (62 : Int32) then (lt (xu p1.2 88 5 ((p1.2 88 5) + (1 : Int32))) fun J12 => Option.bind (M_Model_sum u J12) fun p13 => if p1.1 ≤ p13.1 then (some ((0 : Int32), p13.2)) else (some ((1 : Int32), p13.2))) else (some (p1.1, p1.2))))
theorem s_Model_compared {G : xG} {d : Nat} {du : Nat} (hd : du + 3 ≤ d) (u : HI → Option (Int32 × HI)) (C : HC) (I : HI)   (hu : ∀ (I : HI) (r : Int32 × HI), u I = some r → kM G du m_Model_unit [.ref 88] C I 0 0 (some (.int r.1)) C r.2) (r : Int32 × HI) : M_Model_compared u I = some r → kM G d m_Model_compared [.ref 88] C I 0 0 (some (.int r.1)) C r.2 := by
  unfold M_Model_compared
  refine kM.of (by decide +kernel) (Nat.le_of_ble_eq_true rfl) (lv := [.ref 88, .null, .null, .null]) rfl (fun X hX hE => ?_)
  refine kx_go 1 (pc' := 1) (lv' := [.ref 88, .null, .null, .null]) (st' := [.ref 88]) hX ok_Model_compared rfl ?_
  refine kx_bind (fun p1 hp1 => ?_)
  refine kx_V (r := 88) (as := []) (by decide) hX ok_Model_compared (nx := 4) rfl l_Model_101 (by decide) rfl (fun _ => s_Model_sum (G := G) (d := du + 2) (Nat.le_refl _) u C I  hu p1 hp1) (by omega) rfl (rest := []) rfl (Nat.le_of_ble_eq_true rfl) ⟨Nat.le_of_ble_eq_true rfl, Nat.le_of_ble_eq_true rfl⟩ ?_
  show _ → kW G X m_Model_compared C p1.2 0 0 4 [.ref 88, .null, .null, .null] [.int p1.1]
  refine kx_go 2 (pc' := 6) (lv' := [.ref 88, .int p1.1, .null, .null]) (st' := [.ref 88]) hX ok_Model_compared rfl ?_
  refine kx_bind (fun p2 hp2 => ?_)
  refine kx_V (r := 88) (as := []) (by decide) hX ok_Model_compared (nx := 9) rfl l_Model_83 (by decide) rfl (fun _ => s_Model_here (G := G) (d := 0) (Nat.le_refl _) C p1.2  p2 hp2) (by omega) rfl (rest := []) rfl (Nat.le_of_ble_eq_true rfl) ⟨Nat.le_of_ble_eq_true rfl, Nat.le_of_ble_eq_true rfl⟩ ?_
  show _ → kW G X m_Model_compared C p1.2 0 0 9 [.ref 88, .int p1.1, .null, .null] [.int p2]
  refine kx_go 4 (pc' := if p2 = (60 : Int32) then 30 else 16) (lv' := [.ref 88, .int p1.1, .int p2, .null]) (st' := []) hX ok_Model_compared rfl ?_
  refine kx_ite (fun c3 => ?_) (fun c3 => ?_)
  · refine kx_go 2 (pc' := 32) (lv' := [.ref 88, .int p1.1, .int p2, .null]) (st' := [.ref 88, .ref 88]) hX ok_Model_compared rfl ?_
    refine kx_geti hX ok_Model_compared rfl (k := 5) (nx := 35) rfl ?_
    refine kx_go 2 (pc' := 37) (lv' := [.ref 88, .int p1.1, .int p2, .null]) (st' := [.int ((p1.2 88 5) + (1 : Int32)), .ref 88]) hX ok_Model_compared rfl ?_
    refine kx_puti hX ok_Model_compared rfl (k := 5) (nx := 40) rfl rfl ?_
    refine kx_lt (Q := fun J4 => kW G X m_Model_compared C J4 0 0 40 [.ref 88, .int p1.1, .int p2, .null] []) (fun J4 eJ4 => ?_)
    refine kx_go 1 (pc' := 41) (lv' := [.ref 88, .int p1.1, .int p2, .null]) (st' := [.ref 88]) hX ok_Model_compared rfl ?_
    refine kx_bind (fun p5 hp5 => ?_)
    refine kx_V (r := 88) (as := []) (by decide) hX ok_Model_compared (nx := 44) rfl l_Model_101 (by decide) rfl (fun _ => s_Model_sum (G := G) (d := du + 2) (Nat.le_refl _) u C J4  hu p5 hp5) (by omega) rfl (rest := []) rfl (Nat.le_of_ble_eq_true rfl) ⟨Nat.le_of_ble_eq_true rfl, Nat.le_of_ble_eq_true rfl⟩ ?_
    show _ → kW G X m_Model_compared C p5.2 0 0 44 [.ref 88, .int p1.1, .int p2, .null] [.int p5.1]
    refine kx_go 4 (pc' := if p2 = (60 : Int32) then 51 else 59) (lv' := [.ref 88, .int p1.1, .int p2, .int p5.1]) (st' := []) hX ok_Model_compared rfl ?_
    refine kx_yes c3 ?_
    refine kx_go 3 (pc' := if p5.1 ≤ p1.1 then 82 else 56) (lv' := [.ref 88, .int p1.1, .int p2, .int p5.1]) (st' := []) hX ok_Model_compared rfl ?_
    refine kx_ite (fun c6 => ?_) (fun c6 => ?_)
    · refine kx_go 1 (pc' := 83) (lv' := [.ref 88, .int p1.1, .int p2, .int p5.1]) (st' := [.int (0 : Int32)]) hX ok_Model_compared rfl ?_
      intro h; have h := Option.some.inj h; subst h
      exact kx_iret hX hE ok_Model_compared (nx := 84) rfl rfl ⟨Nat.le_of_ble_eq_true rfl, Nat.le_of_ble_eq_true rfl⟩
    · refine kx_go 3 (pc' := 83) (lv' := [.ref 88, .int p1.1, .int p2, .int p5.1]) (st' := [.int (1 : Int32)]) hX ok_Model_compared rfl ?_
      intro h; have h := Option.some.inj h; subst h
      exact kx_iret hX hE ok_Model_compared (nx := 84) rfl rfl ⟨Nat.le_of_ble_eq_true rfl, Nat.le_of_ble_eq_true rfl⟩
  · refine kx_go 3 (pc' := if p2 = (61 : Int32) then 30 else 22) (lv' := [.ref 88, .int p1.1, .int p2, .null]) (st' := []) hX ok_Model_compared rfl ?_
    refine kx_ite (fun c7 => ?_) (fun c7 => ?_)
    · refine kx_go 2 (pc' := 32) (lv' := [.ref 88, .int p1.1, .int p2, .null]) (st' := [.ref 88, .ref 88]) hX ok_Model_compared rfl ?_
      refine kx_geti hX ok_Model_compared rfl (k := 5) (nx := 35) rfl ?_
      refine kx_go 2 (pc' := 37) (lv' := [.ref 88, .int p1.1, .int p2, .null]) (st' := [.int ((p1.2 88 5) + (1 : Int32)), .ref 88]) hX ok_Model_compared rfl ?_
      refine kx_puti hX ok_Model_compared rfl (k := 5) (nx := 40) rfl rfl ?_
      refine kx_lt (Q := fun J8 => kW G X m_Model_compared C J8 0 0 40 [.ref 88, .int p1.1, .int p2, .null] []) (fun J8 eJ8 => ?_)
      refine kx_go 1 (pc' := 41) (lv' := [.ref 88, .int p1.1, .int p2, .null]) (st' := [.ref 88]) hX ok_Model_compared rfl ?_
      refine kx_bind (fun p9 hp9 => ?_)
      refine kx_V (r := 88) (as := []) (by decide) hX ok_Model_compared (nx := 44) rfl l_Model_101 (by decide) rfl (fun _ => s_Model_sum (G := G) (d := du + 2) (Nat.le_refl _) u C J8  hu p9 hp9) (by omega) rfl (rest := []) rfl (Nat.le_of_ble_eq_true rfl) ⟨Nat.le_of_ble_eq_true rfl, Nat.le_of_ble_eq_true rfl⟩ ?_
      show _ → kW G X m_Model_compared C p9.2 0 0 44 [.ref 88, .int p1.1, .int p2, .null] [.int p9.1]
      refine kx_go 4 (pc' := if p2 = (60 : Int32) then 51 else 59) (lv' := [.ref 88, .int p1.1, .int p2, .int p9.1]) (st' := []) hX ok_Model_compared rfl ?_
      refine kx_no c3 ?_
      refine kx_go 3 (pc' := if p2 = (61 : Int32) then 65 else 73) (lv' := [.ref 88, .int p1.1, .int p2, .int p9.1]) (st' := []) hX ok_Model_compared rfl ?_
      refine kx_yes c7 ?_
      refine kx_go 3 (pc' := if p1.1 = p9.1 then 70 else 82) (lv' := [.ref 88, .int p1.1, .int p2, .int p9.1]) (st' := []) hX ok_Model_compared rfl ?_
      refine kx_ite (fun c10 => ?_) (fun c10 => ?_)
      · refine kx_go 3 (pc' := 83) (lv' := [.ref 88, .int p1.1, .int p2, .int p9.1]) (st' := [.int (1 : Int32)]) hX ok_Model_compared rfl ?_
        intro h; have h := Option.some.inj h; subst h
        exact kx_iret hX hE ok_Model_compared (nx := 84) rfl rfl ⟨Nat.le_of_ble_eq_true rfl, Nat.le_of_ble_eq_true rfl⟩
      · refine kx_go 1 (pc' := 83) (lv' := [.ref 88, .int p1.1, .int p2, .int p9.1]) (st' := [.int (0 : Int32)]) hX ok_Model_compared rfl ?_
        intro h; have h := Option.some.inj h; subst h
        exact kx_iret hX hE ok_Model_compared (nx := 84) rfl rfl ⟨Nat.le_of_ble_eq_true rfl, Nat.le_of_ble_eq_true rfl⟩
    · refine kx_go 3 (pc' := if p2 = (62 : Int32) then 30 else 28) (lv' := [.ref 88, .int p1.1, .int p2, .null]) (st' := []) hX ok_Model_compared rfl ?_
      refine kx_ite (fun c11 => ?_) (fun c11 => ?_)
      · refine kx_go 2 (pc' := 32) (lv' := [.ref 88, .int p1.1, .int p2, .null]) (st' := [.ref 88, .ref 88]) hX ok_Model_compared rfl ?_
        refine kx_geti hX ok_Model_compared rfl (k := 5) (nx := 35) rfl ?_
        refine kx_go 2 (pc' := 37) (lv' := [.ref 88, .int p1.1, .int p2, .null]) (st' := [.int ((p1.2 88 5) + (1 : Int32)), .ref 88]) hX ok_Model_compared rfl ?_
        refine kx_puti hX ok_Model_compared rfl (k := 5) (nx := 40) rfl rfl ?_
        refine kx_lt (Q := fun J12 => kW G X m_Model_compared C J12 0 0 40 [.ref 88, .int p1.1, .int p2, .null] []) (fun J12 eJ12 => ?_)
        refine kx_go 1 (pc' := 41) (lv' := [.ref 88, .int p1.1, .int p2, .null]) (st' := [.ref 88]) hX ok_Model_compared rfl ?_
        refine kx_bind (fun p13 hp13 => ?_)
        refine kx_V (r := 88) (as := []) (by decide) hX ok_Model_compared (nx := 44) rfl l_Model_101 (by decide) rfl (fun _ => s_Model_sum (G := G) (d := du + 2) (Nat.le_refl _) u C J12  hu p13 hp13) (by omega) rfl (rest := []) rfl (Nat.le_of_ble_eq_true rfl) ⟨Nat.le_of_ble_eq_true rfl, Nat.le_of_ble_eq_true rfl⟩ ?_
        show _ → kW G X m_Model_compared C p13.2 0 0 44 [.ref 88, .int p1.1, .int p2, .null] [.int p13.1]
        refine kx_go 4 (pc' := if p2 = (60 : Int32) then 51 else 59) (lv' := [.ref 88, .int p1.1, .int p2, .int p13.1]) (st' := []) hX ok_Model_compared rfl ?_
        refine kx_no c3 ?_
        refine kx_go 3 (pc' := if p2 = (61 : Int32) then 65 else 73) (lv' := [.ref 88, .int p1.1, .int p2, .int p13.1]) (st' := []) hX ok_Model_compared rfl ?_
        refine kx_no c7 ?_
        refine kx_go 3 (pc' := if p1.1 ≤ p13.1 then 82 else 78) (lv' := [.ref 88, .int p1.1, .int p2, .int p13.1]) (st' := []) hX ok_Model_compared rfl ?_
        refine kx_ite (fun c14 => ?_) (fun c14 => ?_)
        · refine kx_go 1 (pc' := 83) (lv' := [.ref 88, .int p1.1, .int p2, .int p13.1]) (st' := [.int (0 : Int32)]) hX ok_Model_compared rfl ?_
          intro h; have h := Option.some.inj h; subst h
          exact kx_iret hX hE ok_Model_compared (nx := 84) rfl rfl ⟨Nat.le_of_ble_eq_true rfl, Nat.le_of_ble_eq_true rfl⟩
        · refine kx_go 2 (pc' := 83) (lv' := [.ref 88, .int p1.1, .int p2, .int p13.1]) (st' := [.int (1 : Int32)]) hX ok_Model_compared rfl ?_
          intro h; have h := Option.some.inj h; subst h
          exact kx_iret hX hE ok_Model_compared (nx := 84) rfl rfl ⟨Nat.le_of_ble_eq_true rfl, Nat.le_of_ble_eq_true rfl⟩
      · refine kx_go 1 (pc' := 29) (lv' := [.ref 88, .int p1.1, .int p2, .null]) (st' := [.int p1.1]) hX ok_Model_compared rfl ?_
        intro h; have h := Option.some.inj h; subst h
        exact kx_iret hX hE ok_Model_compared (nx := 30) rfl rfl ⟨Nat.le_of_ble_eq_true rfl, Nat.le_of_ble_eq_true rfl⟩
def M_Model_takes (I : HI) (x1 : Int32) : Option (Int32 × HI) := Option.bind (M_Model_here I) fun p1 => if p1 = x1 then (lt (xu I 88 5 ((I 88 5) + (1 : Int32))) fun J3 => some ((1 : Int32), J3)) else (some ((0 : Int32), I))
theorem s_Model_takes {G : xG} {d : Nat} (hd : 1 ≤ d) (C : HC) (I : HI) (x1 : Int32)  (r : Int32 × HI) : M_Model_takes I x1 = some r → kM G d m_Model_takes [.ref 88, .int x1] C I 0 0 (some (.int r.1)) C r.2 := by
  unfold M_Model_takes
  refine kM.of (by decide +kernel) (Nat.le_of_ble_eq_true rfl) (lv := [.ref 88, .int x1]) rfl (fun X hX hE => ?_)
  refine kx_go 1 (pc' := 1) (lv' := [.ref 88, .int x1]) (st' := [.ref 88]) hX ok_Model_takes rfl ?_
  refine kx_bind (fun p1 hp1 => ?_)
  refine kx_V (r := 88) (as := []) (by decide) hX ok_Model_takes (nx := 4) rfl l_Model_83 (by decide) rfl (fun _ => s_Model_here (G := G) (d := 0) (Nat.le_refl _) C I  p1 hp1) (by omega) rfl (rest := []) rfl (Nat.le_of_ble_eq_true rfl) ⟨Nat.le_of_ble_eq_true rfl, Nat.le_of_ble_eq_true rfl⟩ ?_
  show _ → kW G X m_Model_takes C I 0 0 4 [.ref 88, .int x1] [.int p1]
  refine kx_go 2 (pc' := if p1 = x1 then 10 else 8) (lv' := [.ref 88, .int x1]) (st' := []) hX ok_Model_takes rfl ?_
  refine kx_ite (fun c2 => ?_) (fun c2 => ?_)
  · refine kx_go 2 (pc' := 12) (lv' := [.ref 88, .int x1]) (st' := [.ref 88, .ref 88]) hX ok_Model_takes rfl ?_
    refine kx_geti hX ok_Model_takes rfl (k := 5) (nx := 15) rfl ?_
    refine kx_go 2 (pc' := 17) (lv' := [.ref 88, .int x1]) (st' := [.int ((I 88 5) + (1 : Int32)), .ref 88]) hX ok_Model_takes rfl ?_
    refine kx_puti hX ok_Model_takes rfl (k := 5) (nx := 20) rfl rfl ?_
    refine kx_lt (Q := fun J3 => kW G X m_Model_takes C J3 0 0 20 [.ref 88, .int x1] []) (fun J3 eJ3 => ?_)
    refine kx_go 1 (pc' := 21) (lv' := [.ref 88, .int x1]) (st' := [.int (1 : Int32)]) hX ok_Model_takes rfl ?_
    intro h; have h := Option.some.inj h; subst h
    exact kx_zret hX hE ok_Model_takes (nx := 22) rfl rfl (Or.inr rfl) ⟨Nat.le_of_ble_eq_true rfl, Nat.le_of_ble_eq_true rfl⟩
  · refine kx_go 1 (pc' := 9) (lv' := [.ref 88, .int x1]) (st' := [.int (0 : Int32)]) hX ok_Model_takes rfl ?_
    intro h; have h := Option.some.inj h; subst h
    exact kx_zret hX hE ok_Model_takes (nx := 10) rfl rfl (Or.inl rfl) ⟨Nat.le_of_ble_eq_true rfl, Nat.le_of_ble_eq_true rfl⟩
def L_Model_both_5 (u : HI → Option (Int32 × HI)) : Nat → Int32 → HI → Option (Int32 × HI)
  | 0, _, _ => none
  | f + 1, x1, I => Option.bind (M_Model_takes I (38 : Int32)) fun p1 => if p1.1 = (0 : Int32) then (some (x1, p1.2)) else (Option.bind (M_Model_compared u p1.2) fun p3 => if x1 = (0 : Int32) then (L_Model_both_5 u f (0 : Int32) p3.2) else (if p3.1 = (0 : Int32) then (L_Model_both_5 u f (0 : Int32) p3.2) else (L_Model_both_5 u f (1 : Int32) p3.2)))
theorem s_L_Model_both_5 {G : xG} {X : xC} {d : Nat} {du : Nat} (hd : du + 4 ≤ d) (hX : xAmb G X m_Model_both d 0 0) (u : HI → Option (Int32 × HI)) (C : HC) (hu : ∀ (I : HI) (r : Int32 × HI), u I = some r → kM G du m_Model_unit [.ref 88] C I 0 0 (some (.int r.1)) C r.2) : ∀ (f : Nat) (x1 : Int32) (I : HI) (r : Int32 × HI), (kW G X m_Model_both C r.2 0 0 36 [.null, .int r.1, .null] []) → L_Model_both_5 u f x1 I = some r → kW G X m_Model_both C I 0 0 5 [.ref 88, .int x1, .null] [] := by
  intro f
  induction f with
  | zero => intro x1 I r hk h; rw [L_Model_both_5] at h; cases h
  | succ f ih =>
    intro x1 I r hk
    rw [L_Model_both_5]
    refine kx_go 2 (pc' := 8) (lv' := [.ref 88, .int x1, .null]) (st' := [.int (38 : Int32), .ref 88]) hX ok_Model_both rfl ?_
    refine kx_bind (fun p1 hp1 => ?_)
    refine kx_V (r := 88) (as := [.int (38 : Int32)]) (by decide) hX ok_Model_both (nx := 11) rfl l_Model_94 (by decide) rfl (fun _ => s_Model_takes (G := G) (d := 1) (Nat.le_refl _) C I (38 : Int32) p1 hp1) (by omega) rfl (rest := []) rfl (Nat.le_of_ble_eq_true rfl) ⟨Nat.le_of_ble_eq_true rfl, Nat.le_of_ble_eq_true rfl⟩ ?_
    show _ → kW G X m_Model_both C p1.2 0 0 11 [.ref 88, .int x1, .null] [.int p1.1]
    refine kx_go 1 (pc' := if p1.1 = (0 : Int32) then 36 else 14) (lv' := [.ref 88, .int x1, .null]) (st' := []) hX ok_Model_both rfl ?_
    refine kx_ite (fun c2 => ?_) (fun c2 => ?_)
    · refine kx_weak (lv' := [.null, .int x1, .null]) (by simp [xsub]) ?_
      intro h; have h := Option.some.inj h; subst h
      exact hk
    · refine kx_go 1 (pc' := 15) (lv' := [.ref 88, .int x1, .null]) (st' := [.ref 88]) hX ok_Model_both rfl ?_
      refine kx_bind (fun p3 hp3 => ?_)
      refine kx_V (r := 88) (as := []) (by decide) hX ok_Model_both (nx := 18) rfl l_Model_98 (by decide) rfl (fun _ => s_Model_compared (G := G) (d := du + 3) (Nat.le_refl _) u C p1.2  hu p3 hp3) (by omega) rfl (rest := []) rfl (Nat.le_of_ble_eq_true rfl) ⟨Nat.le_of_ble_eq_true rfl, Nat.le_of_ble_eq_true rfl⟩ ?_
      show _ → kW G X m_Model_both C p3.2 0 0 18 [.ref 88, .int x1, .null] [.int p3.1]
      refine kx_go 3 (pc' := if x1 = (0 : Int32) then 31 else 23) (lv' := [.ref 88, .int x1, .int p3.1]) (st' := []) hX ok_Model_both rfl ?_
      refine kx_ite (fun c4 => ?_) (fun c4 => ?_)
      · refine kx_go 3 (pc' := 5) (lv' := [.ref 88, .int (0 : Int32), .int p3.1]) (st' := []) hX ok_Model_both rfl ?_
        refine kx_weak (lv' := [.ref 88, .int (0 : Int32), .null]) (by simp [xsub]) ?_
        exact fun h => ih (0 : Int32) p3.2 r hk h
      · refine kx_go 2 (pc' := if p3.1 = (0 : Int32) then 31 else 27) (lv' := [.ref 88, .int x1, .int p3.1]) (st' := []) hX ok_Model_both rfl ?_
        refine kx_ite (fun c5 => ?_) (fun c5 => ?_)
        · refine kx_go 3 (pc' := 5) (lv' := [.ref 88, .int (0 : Int32), .int p3.1]) (st' := []) hX ok_Model_both rfl ?_
          refine kx_weak (lv' := [.ref 88, .int (0 : Int32), .null]) (by simp [xsub]) ?_
          exact fun h => ih (0 : Int32) p3.2 r hk h
        · refine kx_go 4 (pc' := 5) (lv' := [.ref 88, .int (1 : Int32), .int p3.1]) (st' := []) hX ok_Model_both rfl ?_
          refine kx_weak (lv' := [.ref 88, .int (1 : Int32), .null]) (by simp [xsub]) ?_
          exact fun h => ih (1 : Int32) p3.2 r hk h
def M_Model_both (u : HI → Option (Int32 × HI)) (I : HI) : Option (Int32 × HI) := Option.bind (M_Model_compared u I) fun p1 => Option.bind (L_Model_both_5 u 1000 p1.1 p1.2) fun p2 => some (p2.1, p2.2)
theorem s_Model_both {G : xG} {d : Nat} {du : Nat} (hd : du + 4 ≤ d) (u : HI → Option (Int32 × HI)) (C : HC) (I : HI)   (hu : ∀ (I : HI) (r : Int32 × HI), u I = some r → kM G du m_Model_unit [.ref 88] C I 0 0 (some (.int r.1)) C r.2) (r : Int32 × HI) : M_Model_both u I = some r → kM G d m_Model_both [.ref 88] C I 0 0 (some (.int r.1)) C r.2 := by
  unfold M_Model_both
  refine kM.of (by decide +kernel) (Nat.le_of_ble_eq_true rfl) (lv := [.ref 88, .null, .null]) rfl (fun X hX hE => ?_)
  refine kx_go 1 (pc' := 1) (lv' := [.ref 88, .null, .null]) (st' := [.ref 88]) hX ok_Model_both rfl ?_
  refine kx_bind (fun p1 hp1 => ?_)
  refine kx_V (r := 88) (as := []) (by decide) hX ok_Model_both (nx := 4) rfl l_Model_98 (by decide) rfl (fun _ => s_Model_compared (G := G) (d := du + 3) (Nat.le_refl _) u C I  hu p1 hp1) (by omega) rfl (rest := []) rfl (Nat.le_of_ble_eq_true rfl) ⟨Nat.le_of_ble_eq_true rfl, Nat.le_of_ble_eq_true rfl⟩ ?_
  show _ → kW G X m_Model_both C p1.2 0 0 4 [.ref 88, .null, .null] [.int p1.1]
  refine kx_go 1 (pc' := 5) (lv' := [.ref 88, .int p1.1, .null]) (st' := []) hX ok_Model_both rfl ?_
  refine kx_bind (fun p2 hp2 => ?_)
  refine kx_via (fun hk => s_L_Model_both_5 (G := G) (X := X) (by omega) hX u C hu 1000 p1.1 p1.2 p2 hk hp2) ?_
  refine kx_go 1 (pc' := 37) (lv' := [.null, .int p2.1, .null]) (st' := [.int p2.1]) hX ok_Model_both rfl ?_
  intro h; have h := Option.some.inj h; subst h
  exact kx_iret hX hE ok_Model_both (nx := 38) rfl rfl ⟨Nat.le_of_ble_eq_true rfl, Nat.le_of_ble_eq_true rfl⟩
def L_Model_either_5 (u : HI → Option (Int32 × HI)) : Nat → Int32 → HI → Option (Int32 × HI)
  | 0, _, _ => none
  | f + 1, x1, I => Option.bind (M_Model_takes I (124 : Int32)) fun p1 => if p1.1 = (0 : Int32) then (some (x1, p1.2)) else (Option.bind (M_Model_both u p1.2) fun p3 => if x1 = (0 : Int32) then (if p3.1 = (0 : Int32) then (L_Model_either_5 u f (0 : Int32) p3.2) else (L_Model_either_5 u f (1 : Int32) p3.2)) else (L_Model_either_5 u f (1 : Int32) p3.2))
theorem s_L_Model_either_5 {G : xG} {X : xC} {d : Nat} {du : Nat} (hd : du + 5 ≤ d) (hX : xAmb G X m_Model_either d 0 0) (u : HI → Option (Int32 × HI)) (C : HC) (hu : ∀ (I : HI) (r : Int32 × HI), u I = some r → kM G du m_Model_unit [.ref 88] C I 0 0 (some (.int r.1)) C r.2) : ∀ (f : Nat) (x1 : Int32) (I : HI) (r : Int32 × HI), (kW G X m_Model_either C r.2 0 0 36 [.null, .int r.1, .null] []) → L_Model_either_5 u f x1 I = some r → kW G X m_Model_either C I 0 0 5 [.ref 88, .int x1, .null] [] := by
  intro f
  induction f with
  | zero => intro x1 I r hk h; rw [L_Model_either_5] at h; cases h
  | succ f ih =>
    intro x1 I r hk
    rw [L_Model_either_5]
    refine kx_go 2 (pc' := 8) (lv' := [.ref 88, .int x1, .null]) (st' := [.int (124 : Int32), .ref 88]) hX ok_Model_either rfl ?_
    refine kx_bind (fun p1 hp1 => ?_)
    refine kx_V (r := 88) (as := [.int (124 : Int32)]) (by decide) hX ok_Model_either (nx := 11) rfl l_Model_94 (by decide) rfl (fun _ => s_Model_takes (G := G) (d := 1) (Nat.le_refl _) C I (124 : Int32) p1 hp1) (by omega) rfl (rest := []) rfl (Nat.le_of_ble_eq_true rfl) ⟨Nat.le_of_ble_eq_true rfl, Nat.le_of_ble_eq_true rfl⟩ ?_
    show _ → kW G X m_Model_either C p1.2 0 0 11 [.ref 88, .int x1, .null] [.int p1.1]
    refine kx_go 1 (pc' := if p1.1 = (0 : Int32) then 36 else 14) (lv' := [.ref 88, .int x1, .null]) (st' := []) hX ok_Model_either rfl ?_
    refine kx_ite (fun c2 => ?_) (fun c2 => ?_)
    · refine kx_weak (lv' := [.null, .int x1, .null]) (by simp [xsub]) ?_
      intro h; have h := Option.some.inj h; subst h
      exact hk
    · refine kx_go 1 (pc' := 15) (lv' := [.ref 88, .int x1, .null]) (st' := [.ref 88]) hX ok_Model_either rfl ?_
      refine kx_bind (fun p3 hp3 => ?_)
      refine kx_V (r := 88) (as := []) (by decide) hX ok_Model_either (nx := 18) rfl l_Model_91 (by decide) rfl (fun _ => s_Model_both (G := G) (d := du + 4) (Nat.le_refl _) u C p1.2  hu p3 hp3) (by omega) rfl (rest := []) rfl (Nat.le_of_ble_eq_true rfl) ⟨Nat.le_of_ble_eq_true rfl, Nat.le_of_ble_eq_true rfl⟩ ?_
      show _ → kW G X m_Model_either C p3.2 0 0 18 [.ref 88, .int x1, .null] [.int p3.1]
      refine kx_go 3 (pc' := if x1 = (0 : Int32) then 23 else 27) (lv' := [.ref 88, .int x1, .int p3.1]) (st' := []) hX ok_Model_either rfl ?_
      refine kx_ite (fun c4 => ?_) (fun c4 => ?_)
      · refine kx_go 2 (pc' := if p3.1 = (0 : Int32) then 31 else 27) (lv' := [.ref 88, .int x1, .int p3.1]) (st' := []) hX ok_Model_either rfl ?_
        refine kx_ite (fun c5 => ?_) (fun c5 => ?_)
        · refine kx_go 3 (pc' := 5) (lv' := [.ref 88, .int (0 : Int32), .int p3.1]) (st' := []) hX ok_Model_either rfl ?_
          refine kx_weak (lv' := [.ref 88, .int (0 : Int32), .null]) (by simp [xsub]) ?_
          exact fun h => ih (0 : Int32) p3.2 r hk h
        · refine kx_go 4 (pc' := 5) (lv' := [.ref 88, .int (1 : Int32), .int p3.1]) (st' := []) hX ok_Model_either rfl ?_
          refine kx_weak (lv' := [.ref 88, .int (1 : Int32), .null]) (by simp [xsub]) ?_
          exact fun h => ih (1 : Int32) p3.2 r hk h
      · refine kx_go 4 (pc' := 5) (lv' := [.ref 88, .int (1 : Int32), .int p3.1]) (st' := []) hX ok_Model_either rfl ?_
        refine kx_weak (lv' := [.ref 88, .int (1 : Int32), .null]) (by simp [xsub]) ?_
        exact fun h => ih (1 : Int32) p3.2 r hk h
def M_Model_either (u : HI → Option (Int32 × HI)) (I : HI) : Option (Int32 × HI) := Option.bind (M_Model_both u I) fun p1 => Option.bind (L_Model_either_5 u 1000 p1.1 p1.2) fun p2 => some (p2.1, p2.2)
theorem s_Model_either {G : xG} {d : Nat} {du : Nat} (hd : du + 5 ≤ d) (u : HI → Option (Int32 × HI)) (C : HC) (I : HI)   (hu : ∀ (I : HI) (r : Int32 × HI), u I = some r → kM G du m_Model_unit [.ref 88] C I 0 0 (some (.int r.1)) C r.2) (r : Int32 × HI) : M_Model_either u I = some r → kM G d m_Model_either [.ref 88] C I 0 0 (some (.int r.1)) C r.2 := by
  unfold M_Model_either
  refine kM.of (by decide +kernel) (Nat.le_of_ble_eq_true rfl) (lv := [.ref 88, .null, .null]) rfl (fun X hX hE => ?_)
  refine kx_go 1 (pc' := 1) (lv' := [.ref 88, .null, .null]) (st' := [.ref 88]) hX ok_Model_either rfl ?_
  refine kx_bind (fun p1 hp1 => ?_)
  refine kx_V (r := 88) (as := []) (by decide) hX ok_Model_either (nx := 4) rfl l_Model_91 (by decide) rfl (fun _ => s_Model_both (G := G) (d := du + 4) (Nat.le_refl _) u C I  hu p1 hp1) (by omega) rfl (rest := []) rfl (Nat.le_of_ble_eq_true rfl) ⟨Nat.le_of_ble_eq_true rfl, Nat.le_of_ble_eq_true rfl⟩ ?_
  show _ → kW G X m_Model_either C p1.2 0 0 4 [.ref 88, .null, .null] [.int p1.1]
  refine kx_go 1 (pc' := 5) (lv' := [.ref 88, .int p1.1, .null]) (st' := []) hX ok_Model_either rfl ?_
  refine kx_bind (fun p2 hp2 => ?_)
  refine kx_via (fun hk => s_L_Model_either_5 (G := G) (X := X) (by omega) hX u C hu 1000 p1.1 p1.2 p2 hk hp2) ?_
  refine kx_go 1 (pc' := 37) (lv' := [.null, .int p2.1, .null]) (st' := [.int p2.1]) hX ok_Model_either rfl ?_
  intro h; have h := Option.some.inj h; subst h
  exact kx_iret hX hE ok_Model_either (nx := 38) rfl rfl ⟨Nat.le_of_ble_eq_true rfl, Nat.le_of_ble_eq_true rfl⟩
def M_Model_nameOf (I : HI) (x1 : Int32) : Int32 := if (I 88 9) = (0 : Int32) then (if x1 = (99 : Int32) then ((0 : Int32)) else (if x1 = (109 : Int32) then ((1 : Int32)) else (if x1 = (107 : Int32) then ((2 : Int32)) else (if x1 = (104 : Int32) then ((3 : Int32)) else ((-1 : Int32)))))) else (if x1 = (119 : Int32) then ((0 : Int32)) else (if x1 = (107 : Int32) then ((1 : Int32)) else (if x1 = (99 : Int32) then ((2 : Int32)) else ((-1 : Int32)))))
theorem s_Model_nameOf {G : xG} {d : Nat} (hd : 0 ≤ d) (C : HC) (I : HI) (x1 : Int32)  (r : Int32) : M_Model_nameOf I x1 = r → kM G d m_Model_nameOf [.ref 88, .int x1] C I 0 0 (some (.int r)) C I := by
  unfold M_Model_nameOf
  refine kM.of (by decide +kernel) (Nat.le_of_ble_eq_true rfl) (lv := [.ref 88, .int x1]) rfl (fun X hX hE => ?_)
  refine kx_go 1 (pc' := 1) (lv' := [.ref 88, .int x1]) (st' := [.ref 88]) hX ok_Model_nameOf rfl ?_
  refine kx_geti hX ok_Model_nameOf rfl (k := 9) (nx := 4) rfl ?_
  refine kx_go 1 (pc' := if (I 88 9) = (0 : Int32) then 39 else 7) (lv' := [.ref 88, .int x1]) (st' := []) hX ok_Model_nameOf rfl ?_
  refine kx_ite (fun c1 => ?_) (fun c1 => ?_)
  · refine kx_go 3 (pc' := if x1 = (99 : Int32) then 45 else 49) (lv' := [.ref 88, .int x1]) (st' := []) hX ok_Model_nameOf rfl ?_
    refine kx_ite (fun c2 => ?_) (fun c2 => ?_)
    · refine kx_go 2 (pc' := 80) (lv' := [.ref 88, .int x1]) (st' := [.int (0 : Int32)]) hX ok_Model_nameOf rfl ?_
      rintro rfl
      exact kx_iret hX hE ok_Model_nameOf (nx := 81) rfl rfl ⟨Nat.le_of_ble_eq_true rfl, Nat.le_of_ble_eq_true rfl⟩
    · refine kx_go 3 (pc' := if x1 = (109 : Int32) then 55 else 59) (lv' := [.ref 88, .int x1]) (st' := []) hX ok_Model_nameOf rfl ?_
      refine kx_ite (fun c3 => ?_) (fun c3 => ?_)
      · refine kx_go 2 (pc' := 80) (lv' := [.ref 88, .int x1]) (st' := [.int (1 : Int32)]) hX ok_Model_nameOf rfl ?_
        rintro rfl
        exact kx_iret hX hE ok_Model_nameOf (nx := 81) rfl rfl ⟨Nat.le_of_ble_eq_true rfl, Nat.le_of_ble_eq_true rfl⟩
      · refine kx_go 3 (pc' := if x1 = (107 : Int32) then 65 else 69) (lv' := [.ref 88, .int x1]) (st' := []) hX ok_Model_nameOf rfl ?_
        refine kx_ite (fun c4 => ?_) (fun c4 => ?_)
        · refine kx_go 2 (pc' := 80) (lv' := [.ref 88, .int x1]) (st' := [.int (2 : Int32)]) hX ok_Model_nameOf rfl ?_
          rintro rfl
          exact kx_iret hX hE ok_Model_nameOf (nx := 81) rfl rfl ⟨Nat.le_of_ble_eq_true rfl, Nat.le_of_ble_eq_true rfl⟩
        · refine kx_go 3 (pc' := if x1 = (104 : Int32) then 75 else 79) (lv' := [.ref 88, .int x1]) (st' := []) hX ok_Model_nameOf rfl ?_
          refine kx_ite (fun c5 => ?_) (fun c5 => ?_)
          · refine kx_go 2 (pc' := 80) (lv' := [.ref 88, .int x1]) (st' := [.int (3 : Int32)]) hX ok_Model_nameOf rfl ?_
            rintro rfl
            exact kx_iret hX hE ok_Model_nameOf (nx := 81) rfl rfl ⟨Nat.le_of_ble_eq_true rfl, Nat.le_of_ble_eq_true rfl⟩
          · refine kx_go 1 (pc' := 80) (lv' := [.ref 88, .int x1]) (st' := [.int (-1 : Int32)]) hX ok_Model_nameOf rfl ?_
            rintro rfl
            exact kx_iret hX hE ok_Model_nameOf (nx := 81) rfl rfl ⟨Nat.le_of_ble_eq_true rfl, Nat.le_of_ble_eq_true rfl⟩
  · refine kx_go 3 (pc' := if x1 = (119 : Int32) then 13 else 17) (lv' := [.ref 88, .int x1]) (st' := []) hX ok_Model_nameOf rfl ?_
    refine kx_ite (fun c6 => ?_) (fun c6 => ?_)
    · refine kx_go 2 (pc' := 38) (lv' := [.ref 88, .int x1]) (st' := [.int (0 : Int32)]) hX ok_Model_nameOf rfl ?_
      rintro rfl
      exact kx_iret hX hE ok_Model_nameOf (nx := 39) rfl rfl ⟨Nat.le_of_ble_eq_true rfl, Nat.le_of_ble_eq_true rfl⟩
    · refine kx_go 3 (pc' := if x1 = (107 : Int32) then 23 else 27) (lv' := [.ref 88, .int x1]) (st' := []) hX ok_Model_nameOf rfl ?_
      refine kx_ite (fun c7 => ?_) (fun c7 => ?_)
      · refine kx_go 2 (pc' := 38) (lv' := [.ref 88, .int x1]) (st' := [.int (1 : Int32)]) hX ok_Model_nameOf rfl ?_
        rintro rfl
        exact kx_iret hX hE ok_Model_nameOf (nx := 39) rfl rfl ⟨Nat.le_of_ble_eq_true rfl, Nat.le_of_ble_eq_true rfl⟩
      · refine kx_go 3 (pc' := if x1 = (99 : Int32) then 33 else 37) (lv' := [.ref 88, .int x1]) (st' := []) hX ok_Model_nameOf rfl ?_
        refine kx_ite (fun c8 => ?_) (fun c8 => ?_)
        · refine kx_go 2 (pc' := 38) (lv' := [.ref 88, .int x1]) (st' := [.int (2 : Int32)]) hX ok_Model_nameOf rfl ?_
          rintro rfl
          exact kx_iret hX hE ok_Model_nameOf (nx := 39) rfl rfl ⟨Nat.le_of_ble_eq_true rfl, Nat.le_of_ble_eq_true rfl⟩
        · refine kx_go 1 (pc' := 38) (lv' := [.ref 88, .int x1]) (st' := [.int (-1 : Int32)]) hX ok_Model_nameOf rfl ?_
          rintro rfl
          exact kx_iret hX hE ok_Model_nameOf (nx := 39) rfl rfl ⟨Nat.le_of_ble_eq_true rfl, Nat.le_of_ble_eq_true rfl⟩
def M_Model_in (w0 : Int64) (w2 : Int64) (w4 : Int64) : Int32 := if (lg_cmp w0 w2) < (0 : Int32) then ((0 : Int32)) else (if (0 : Int32) < (lg_cmp w0 w4) then ((0 : Int32)) else ((1 : Int32)))
theorem s_Model_in {G : xG} {d : Nat} (hd : 0 ≤ d) (C : HC) (I : HI) (w0 : Int64) (w2 : Int64) (w4 : Int64)  (r : Int32) : M_Model_in w0 w2 w4 = r → kM G d m_Model_in [.long w0, .long w2, .long w4] C I 0 0 (some (.int r)) C I := by
  unfold M_Model_in
  refine kM.of (by decide +kernel) (Nat.le_of_ble_eq_true rfl) (lv := [.long w0, .null, .long w2, .null, .long w4, .null]) rfl (fun X hX hE => ?_)
  refine kx_go 4 (pc' := if (lg_cmp w0 w2) < (0 : Int32) then 17 else 6) (lv' := [.long w0, .null, .long w2, .null, .long w4, .null]) (st' := []) hX ok_Model_in rfl ?_
  refine kx_ite (fun c1 => ?_) (fun c1 => ?_)
  · refine kx_go 1 (pc' := 18) (lv' := [.long w0, .null, .long w2, .null, .long w4, .null]) (st' := [.int (0 : Int32)]) hX ok_Model_in rfl ?_
    rintro rfl
    exact kx_zret hX hE ok_Model_in (nx := 19) rfl rfl (Or.inl rfl) ⟨Nat.le_of_ble_eq_true rfl, Nat.le_of_ble_eq_true rfl⟩
  · refine kx_go 4 (pc' := if (0 : Int32) < (lg_cmp w0 w4) then 17 else 13) (lv' := [.long w0, .null, .long w2, .null, .long w4, .null]) (st' := []) hX ok_Model_in rfl ?_
    refine kx_ite (fun c2 => ?_) (fun c2 => ?_)
    · refine kx_go 1 (pc' := 18) (lv' := [.long w0, .null, .long w2, .null, .long w4, .null]) (st' := [.int (0 : Int32)]) hX ok_Model_in rfl ?_
      rintro rfl
      exact kx_zret hX hE ok_Model_in (nx := 19) rfl rfl (Or.inl rfl) ⟨Nat.le_of_ble_eq_true rfl, Nat.le_of_ble_eq_true rfl⟩
    · refine kx_go 2 (pc' := 18) (lv' := [.long w0, .null, .long w2, .null, .long w4, .null]) (st' := [.int (1 : Int32)]) hX ok_Model_in rfl ?_
      rintro rfl
      exact kx_zret hX hE ok_Model_in (nx := 19) rfl rfl (Or.inr rfl) ⟨Nat.le_of_ble_eq_true rfl, Nat.le_of_ble_eq_true rfl⟩
theorem b_Model_in (w0 : Int64) (w2 : Int64) (w4 : Int64) : M_Model_in w0 w2 w4 = 0 ∨ M_Model_in w0 w2 w4 = 1 := by
  unfold M_Model_in
  (repeat' split) <;> first | exact Or.inl rfl | exact Or.inr rfl
def L_Model_unit_150 (u : HI → Option (Int32 × HI)) : Nat → Int32 → Int32 → HI → Option (Int32 × Int32 × HI)
  | 0, _, _, _ => none
  | f + 1, x3, x4, I => if (4 : Int32) ≤ x4 then (some (x3, x4, I)) else (Option.bind (M_Model_here I) fun p2 => if (M_Model_in (p2.toInt64) (Int64.ofNat 48) (Int64.ofNat 57)) = (0 : Int32) then (some (x3, x4, I)) else (Option.bind (M_Model_here I) fun p4 => lt (xu I 88 5 ((I 88 5) + (1 : Int32))) fun J5 => L_Model_unit_150 u f ((((10 : Int32) * x3) + p4) - (48 : Int32)) (x4 + (1 : Int32)) J5))
theorem s_L_Model_unit_150 {G : xG} {X : xC} {d : Nat} {du : Nat} (hd : du + 6 ≤ d) (hX : xAmb G X m_Model_unit d 0 0) (u : HI → Option (Int32 × HI)) (C : HC) (hu : ∀ (I : HI) (r : Int32 × HI), u I = some r → kM G du m_Model_unit [.ref 88] C I 0 0 (some (.int r.1)) C r.2) : ∀ (f : Nat) (x3 : Int32) (x4 : Int32) (I : HI) (r : Int32 × Int32 × HI), (kW G X m_Model_unit C r.2.2 0 0 202 [.ref 88, .null, .null, .int r.1, .int r.2.1] []) → L_Model_unit_150 u f x3 x4 I = some r → kW G X m_Model_unit C I 0 0 150 [.ref 88, .null, .null, .int x3, .int x4] [] := by
  intro f
  induction f with
  | zero => intro x3 x4 I r hk h; rw [L_Model_unit_150] at h; cases h
  | succ f ih =>
    intro x3 x4 I r hk
    rw [L_Model_unit_150]
    refine kx_go 3 (pc' := if (4 : Int32) ≤ x4 then 202 else 156) (lv' := [.ref 88, .null, .null, .int x3, .int x4]) (st' := []) hX ok_Model_unit rfl ?_
    refine kx_ite (fun c1 => ?_) (fun c1 => ?_)
    · intro h; have h := Option.some.inj h; subst h
      exact hk
    · refine kx_go 1 (pc' := 157) (lv' := [.ref 88, .null, .null, .int x3, .int x4]) (st' := [.ref 88]) hX ok_Model_unit rfl ?_
      refine kx_bind (fun p2 hp2 => ?_)
      refine kx_V (r := 88) (as := []) (by decide) hX ok_Model_unit (nx := 160) rfl l_Model_83 (by decide) rfl (fun _ => s_Model_here (G := G) (d := 0) (Nat.le_refl _) C I  p2 hp2) (by omega) rfl (rest := []) rfl (Nat.le_of_ble_eq_true rfl) ⟨Nat.le_of_ble_eq_true rfl, Nat.le_of_ble_eq_true rfl⟩ ?_
      show _ → kW G X m_Model_unit C I 0 0 160 [.ref 88, .null, .null, .int x3, .int x4] [.int p2]
      refine kx_go 3 (pc' := 167) (lv' := [.ref 88, .null, .null, .int x3, .int x4]) (st' := [.long (Int64.ofNat 57), .long (Int64.ofNat 48), .long (p2.toInt64)]) hX ok_Model_unit rfl ?_
      refine kx_S (as := [.long (p2.toInt64), .long (Int64.ofNat 48), .long (Int64.ofNat 57)]) hX ok_Model_unit (nx := 170) rfl l_Model_66 (fun _ => s_Model_in (G := G) (d := 0) (Nat.le_refl _) C I (p2.toInt64) (Int64.ofNat 48) (Int64.ofNat 57) _ rfl) (by omega) rfl (rest := []) rfl (Nat.le_of_ble_eq_true rfl) ⟨Nat.le_of_ble_eq_true rfl, Nat.le_of_ble_eq_true rfl⟩ ?_
      show _ → kW G X m_Model_unit C I 0 0 170 [.ref 88, .null, .null, .int x3, .int x4] [.int (M_Model_in (p2.toInt64) (Int64.ofNat 48) (Int64.ofNat 57))]
      refine kx_go 1 (pc' := if (M_Model_in (p2.toInt64) (Int64.ofNat 48) (Int64.ofNat 57)) = (0 : Int32) then 202 else 173) (lv' := [.ref 88, .null, .null, .int x3, .int x4]) (st' := []) hX ok_Model_unit rfl ?_
      refine kx_ite (fun c3 => ?_) (fun c3 => ?_)
      · intro h; have h := Option.some.inj h; subst h
        exact hk
      · refine kx_go 4 (pc' := 178) (lv' := [.ref 88, .null, .null, .int x3, .int x4]) (st' := [.ref 88, .int ((10 : Int32) * x3)]) hX ok_Model_unit rfl ?_
        refine kx_bind (fun p4 hp4 => ?_)
        refine kx_V (r := 88) (as := []) (by decide) hX ok_Model_unit (nx := 181) rfl l_Model_83 (by decide) rfl (fun _ => s_Model_here (G := G) (d := 0) (Nat.le_refl _) C I  p4 hp4) (by omega) rfl (rest := [.int ((10 : Int32) * x3)]) rfl (Nat.le_of_ble_eq_true rfl) ⟨Nat.le_of_ble_eq_true rfl, Nat.le_of_ble_eq_true rfl⟩ ?_
        show _ → kW G X m_Model_unit C I 0 0 181 [.ref 88, .null, .null, .int x3, .int x4] [.int p4, .int ((10 : Int32) * x3)]
        refine kx_go 6 (pc' := 188) (lv' := [.ref 88, .null, .null, .int ((((10 : Int32) * x3) + p4) - (48 : Int32)), .int x4]) (st' := [.ref 88, .ref 88]) hX ok_Model_unit rfl ?_
        refine kx_geti hX ok_Model_unit rfl (k := 5) (nx := 191) rfl ?_
        refine kx_go 2 (pc' := 193) (lv' := [.ref 88, .null, .null, .int ((((10 : Int32) * x3) + p4) - (48 : Int32)), .int x4]) (st' := [.int ((I 88 5) + (1 : Int32)), .ref 88]) hX ok_Model_unit rfl ?_
        refine kx_puti hX ok_Model_unit rfl (k := 5) (nx := 196) rfl rfl ?_
        refine kx_lt (Q := fun J5 => kW G X m_Model_unit C J5 0 0 196 [.ref 88, .null, .null, .int ((((10 : Int32) * x3) + p4) - (48 : Int32)), .int x4] []) (fun J5 eJ5 => ?_)
        refine kx_go 2 (pc' := 150) (lv' := [.ref 88, .null, .null, .int ((((10 : Int32) * x3) + p4) - (48 : Int32)), .int (x4 + (1 : Int32))]) (st' := []) hX ok_Model_unit rfl ?_
        exact fun h => ih ((((10 : Int32) * x3) + p4) - (48 : Int32)) (x4 + (1 : Int32)) J5 r hk h
def M_Model_unit (u : HI → Option (Int32 × HI)) (I : HI) : Option (Int32 × HI) := Option.bind (M_Model_here I) fun p1 => if p1 = (33 : Int32) then (if (I 88 8) = (5 : Int32) then (lt (M_Model_wrong I) fun p4 => some (p4.1, p4.2)) else (lt (xu I 88 8 ((I 88 8) + (1 : Int32))) fun J5 => lt (xu J5 88 5 ((J5 88 5) + (1 : Int32))) fun J6 => if p1 = (40 : Int32) then (Option.bind (M_Model_either u J6) fun p8 => Option.bind (M_Model_takes p8.2 (41 : Int32)) fun p9 => if p9.1 = (0 : Int32) then (lt (M_Model_wrong p9.2) fun p11 => some (p11.1, p11.2)) else (lt (xu p9.2 88 8 ((p9.2 88 8) - (1 : Int32))) fun J12 => some (p8.1, J12))) else (Option.bind (u J6) fun p13 => lt (xu p13.2 88 8 ((p13.2 88 8) - (1 : Int32))) fun J14 => if p13.1 = (0 : Int32) then (some ((1 : Int32), J14)) else (some ((0 : Int32), J14))))) else (if p1 = (40 : Int32) then (if (I 88 8) = (5 : Int32) then (lt (M_Model_wrong I) fun p18 => some (p18.1, p18.2)) else (lt (xu I 88 8 ((I 88 8) + (1 : Int32))) fun J19 => lt (xu J19 88 5 ((J19 88 5) + (1 : Int32))) fun J20 => Option.bind (M_Model_either u J20) fun p21 => Option.bind (M_Model_takes p21.2 (41 : Int32)) fun p22 => if p22.1 = (0 : Int32) then (lt (M_Model_wrong p22.2) fun p24 => some (p24.1, p24.2)) else (lt (xu p22.2 88 8 ((p22.2 88 8) - (1 : Int32))) fun J25 => some (p21.1, J25)))) else (if (M_Model_nameOf I p1) < (0 : Int32) then (Option.bind (L_Model_unit_150 u 1000 (0 : Int32) (0 : Int32) I) fun p27 => if p27.2.1 = (0 : Int32) then (lt (M_Model_wrong p27.2.2) fun p29 => some (p29.1, p29.2)) else (some (p27.1, p27.2.2))) else (lt (xu I 88 5 ((I 88 5) + (1 : Int32))) fun J30 => grd (bnd (M_Model_nameOf I p1) 4) (some ((J30 92 (M_Model_nameOf I p1).toNatClampNeg), J30)))))
theorem s_Model_unit {G : xG} {d : Nat} {du : Nat} (hd : du + 6 ≤ d) (u : HI → Option (Int32 × HI)) (C : HC) (I : HI)   (hu : ∀ (I : HI) (r : Int32 × HI), u I = some r → kM G du m_Model_unit [.ref 88] C I 0 0 (some (.int r.1)) C r.2) (r : Int32 × HI) : M_Model_unit u I = some r → kM G d m_Model_unit [.ref 88] C I 0 0 (some (.int r.1)) C r.2 := by
  unfold M_Model_unit
  refine kM.of (by decide +kernel) (Nat.le_of_ble_eq_true rfl) (lv := [.ref 88, .null, .null, .null, .null]) rfl (fun X hX hE => ?_)
  refine kx_go 1 (pc' := 1) (lv' := [.ref 88, .null, .null, .null, .null]) (st' := [.ref 88]) hX ok_Model_unit rfl ?_
  refine kx_bind (fun p1 hp1 => ?_)
  refine kx_V (r := 88) (as := []) (by decide) hX ok_Model_unit (nx := 4) rfl l_Model_83 (by decide) rfl (fun _ => s_Model_here (G := G) (d := 0) (Nat.le_refl _) C I  p1 hp1) (by omega) rfl (rest := []) rfl (Nat.le_of_ble_eq_true rfl) ⟨Nat.le_of_ble_eq_true rfl, Nat.le_of_ble_eq_true rfl⟩ ?_
  show _ → kW G X m_Model_unit C I 0 0 4 [.ref 88, .null, .null, .null, .null] [.int p1]
  refine kx_go 4 (pc' := if p1 = (33 : Int32) then 17 else 11) (lv' := [.ref 88, .int p1, .null, .null, .null]) (st' := []) hX ok_Model_unit rfl ?_
  refine kx_ite (fun c2 => ?_) (fun c2 => ?_)
  · refine kx_go 1 (pc' := 18) (lv' := [.ref 88, .int p1, .null, .null, .null]) (st' := [.ref 88]) hX ok_Model_unit rfl ?_
    refine kx_geti hX ok_Model_unit rfl (k := 8) (nx := 21) rfl ?_
    refine kx_go 2 (pc' := if (I 88 8) = (5 : Int32) then 25 else 30) (lv' := [.ref 88, .int p1, .null, .null, .null]) (st' := []) hX ok_Model_unit rfl ?_
    refine kx_ite (fun c3 => ?_) (fun c3 => ?_)
    · refine kx_go 1 (pc' := 26) (lv' := [.ref 88, .int p1, .null, .null, .null]) (st' := [.ref 88]) hX ok_Model_unit rfl ?_
      refine kx_lti (fun p4 hp4 => ?_)
      refine kx_V (r := 88) (as := []) (by decide) hX ok_Model_unit (nx := 29) rfl l_Model_113 (by decide) rfl (fun _ => s_Model_wrong (G := G) (d := 0) (Nat.le_refl _) C I  p4 hp4) (by omega) rfl (rest := []) rfl (Nat.le_of_ble_eq_true rfl) ⟨Nat.le_of_ble_eq_true rfl, Nat.le_of_ble_eq_true rfl⟩ ?_
      show _ → kW G X m_Model_unit C p4.2 0 0 29 [.ref 88, .int p1, .null, .null, .null] [.int p4.1]
      intro h; have h := Option.some.inj h; subst h
      exact kx_iret hX hE ok_Model_unit (nx := 30) rfl rfl ⟨Nat.le_of_ble_eq_true rfl, Nat.le_of_ble_eq_true rfl⟩
    · refine kx_go 2 (pc' := 32) (lv' := [.ref 88, .int p1, .null, .null, .null]) (st' := [.ref 88, .ref 88]) hX ok_Model_unit rfl ?_
      refine kx_geti hX ok_Model_unit rfl (k := 8) (nx := 35) rfl ?_
      refine kx_go 2 (pc' := 37) (lv' := [.ref 88, .int p1, .null, .null, .null]) (st' := [.int ((I 88 8) + (1 : Int32)), .ref 88]) hX ok_Model_unit rfl ?_
      refine kx_puti hX ok_Model_unit rfl (k := 8) (nx := 40) rfl rfl ?_
      refine kx_lt (Q := fun J5 => kW G X m_Model_unit C J5 0 0 40 [.ref 88, .int p1, .null, .null, .null] []) (fun J5 eJ5 => ?_)
      refine kx_go 2 (pc' := 42) (lv' := [.ref 88, .int p1, .null, .null, .null]) (st' := [.ref 88, .ref 88]) hX ok_Model_unit rfl ?_
      refine kx_geti hX ok_Model_unit rfl (k := 5) (nx := 45) rfl ?_
      refine kx_go 2 (pc' := 47) (lv' := [.ref 88, .int p1, .null, .null, .null]) (st' := [.int ((J5 88 5) + (1 : Int32)), .ref 88]) hX ok_Model_unit rfl ?_
      refine kx_puti hX ok_Model_unit rfl (k := 5) (nx := 50) rfl rfl ?_
      refine kx_lt (Q := fun J6 => kW G X m_Model_unit C J6 0 0 50 [.ref 88, .int p1, .null, .null, .null] []) (fun J6 eJ6 => ?_)
      refine kx_go 3 (pc' := if p1 = (40 : Int32) then 56 else 63) (lv' := [.ref 88, .int p1, .null, .null, .null]) (st' := []) hX ok_Model_unit rfl ?_
      refine kx_ite (fun c7 => ?_) (fun c7 => ?_)
      · refine kx_go 1 (pc' := 57) (lv' := [.ref 88, .int p1, .null, .null, .null]) (st' := [.ref 88]) hX ok_Model_unit rfl ?_
        refine kx_bind (fun p8 hp8 => ?_)
        refine kx_V (r := 88) (as := []) (by decide) hX ok_Model_unit (nx := 60) rfl l_Model_116 (by decide) rfl (fun _ => s_Model_either (G := G) (d := du + 5) (Nat.le_refl _) u C J6  hu p8 hp8) (by omega) rfl (rest := []) rfl (Nat.le_of_ble_eq_true rfl) ⟨Nat.le_of_ble_eq_true rfl, Nat.le_of_ble_eq_true rfl⟩ ?_
        show _ → kW G X m_Model_unit C p8.2 0 0 60 [.ref 88, .int p1, .null, .null, .null] [.int p8.1]
        refine kx_go 5 (pc' := if p1 = (40 : Int32) then 74 else 88) (lv' := [.ref 88, .int p1, .int p8.1, .null, .null]) (st' := []) hX ok_Model_unit rfl ?_
        refine kx_yes c7 ?_
        refine kx_go 2 (pc' := 77) (lv' := [.ref 88, .int p1, .int p8.1, .null, .null]) (st' := [.int (41 : Int32), .ref 88]) hX ok_Model_unit rfl ?_
        refine kx_bind (fun p9 hp9 => ?_)
        refine kx_V (r := 88) (as := [.int (41 : Int32)]) (by decide) hX ok_Model_unit (nx := 80) rfl l_Model_94 (by decide) rfl (fun _ => s_Model_takes (G := G) (d := 1) (Nat.le_refl _) C p8.2 (41 : Int32) p9 hp9) (by omega) rfl (rest := []) rfl (Nat.le_of_ble_eq_true rfl) ⟨Nat.le_of_ble_eq_true rfl, Nat.le_of_ble_eq_true rfl⟩ ?_
        show _ → kW G X m_Model_unit C p9.2 0 0 80 [.ref 88, .int p1, .int p8.1, .null, .null] [.int p9.1]
        refine kx_go 1 (pc' := if p9.1 = (0 : Int32) then 83 else 88) (lv' := [.ref 88, .int p1, .int p8.1, .null, .null]) (st' := []) hX ok_Model_unit rfl ?_
        refine kx_ite (fun c10 => ?_) (fun c10 => ?_)
        · refine kx_go 1 (pc' := 84) (lv' := [.ref 88, .int p1, .int p8.1, .null, .null]) (st' := [.ref 88]) hX ok_Model_unit rfl ?_
          refine kx_lti (fun p11 hp11 => ?_)
          refine kx_V (r := 88) (as := []) (by decide) hX ok_Model_unit (nx := 87) rfl l_Model_113 (by decide) rfl (fun _ => s_Model_wrong (G := G) (d := 0) (Nat.le_refl _) C p9.2  p11 hp11) (by omega) rfl (rest := []) rfl (Nat.le_of_ble_eq_true rfl) ⟨Nat.le_of_ble_eq_true rfl, Nat.le_of_ble_eq_true rfl⟩ ?_
          show _ → kW G X m_Model_unit C p11.2 0 0 87 [.ref 88, .int p1, .int p8.1, .null, .null] [.int p11.1]
          intro h; have h := Option.some.inj h; subst h
          exact kx_iret hX hE ok_Model_unit (nx := 88) rfl rfl ⟨Nat.le_of_ble_eq_true rfl, Nat.le_of_ble_eq_true rfl⟩
        · refine kx_go 2 (pc' := 90) (lv' := [.ref 88, .int p1, .int p8.1, .null, .null]) (st' := [.ref 88, .ref 88]) hX ok_Model_unit rfl ?_
          refine kx_geti hX ok_Model_unit rfl (k := 8) (nx := 93) rfl ?_
          refine kx_go 2 (pc' := 95) (lv' := [.ref 88, .int p1, .int p8.1, .null, .null]) (st' := [.int ((p9.2 88 8) - (1 : Int32)), .ref 88]) hX ok_Model_unit rfl ?_
          refine kx_puti hX ok_Model_unit rfl (k := 8) (nx := 98) rfl rfl ?_
          refine kx_lt (Q := fun J12 => kW G X m_Model_unit C J12 0 0 98 [.ref 88, .int p1, .int p8.1, .null, .null] []) (fun J12 eJ12 => ?_)
          refine kx_go 3 (pc' := if p1 = (40 : Int32) then 104 else 108) (lv' := [.ref 88, .int p1, .int p8.1, .null, .null]) (st' := []) hX ok_Model_unit rfl ?_
          refine kx_yes c7 ?_
          refine kx_go 2 (pc' := 117) (lv' := [.ref 88, .int p1, .int p8.1, .null, .null]) (st' := [.int p8.1]) hX ok_Model_unit rfl ?_
          intro h; have h := Option.some.inj h; subst h
          exact kx_iret hX hE ok_Model_unit (nx := 118) rfl rfl ⟨Nat.le_of_ble_eq_true rfl, Nat.le_of_ble_eq_true rfl⟩
      · refine kx_go 1 (pc' := 64) (lv' := [.ref 88, .int p1, .null, .null, .null]) (st' := [.ref 88]) hX ok_Model_unit rfl ?_
        refine kx_bind (fun p13 hp13 => ?_)
        refine kx_V (r := 88) (as := []) (by decide) hX ok_Model_unit (nx := 67) rfl l_Model_107 (by decide) rfl (fun _ => hu J6 p13 hp13) (by omega) rfl (rest := []) rfl (Nat.le_of_ble_eq_true rfl) ⟨Nat.le_of_ble_eq_true rfl, Nat.le_of_ble_eq_true rfl⟩ ?_
        show _ → kW G X m_Model_unit C p13.2 0 0 67 [.ref 88, .int p1, .null, .null, .null] [.int p13.1]
        refine kx_go 4 (pc' := if p1 = (40 : Int32) then 74 else 88) (lv' := [.ref 88, .int p1, .int p13.1, .null, .null]) (st' := []) hX ok_Model_unit rfl ?_
        refine kx_no c7 ?_
        refine kx_go 2 (pc' := 90) (lv' := [.ref 88, .int p1, .int p13.1, .null, .null]) (st' := [.ref 88, .ref 88]) hX ok_Model_unit rfl ?_
        refine kx_geti hX ok_Model_unit rfl (k := 8) (nx := 93) rfl ?_
        refine kx_go 2 (pc' := 95) (lv' := [.ref 88, .int p1, .int p13.1, .null, .null]) (st' := [.int ((p13.2 88 8) - (1 : Int32)), .ref 88]) hX ok_Model_unit rfl ?_
        refine kx_puti hX ok_Model_unit rfl (k := 8) (nx := 98) rfl rfl ?_
        refine kx_lt (Q := fun J14 => kW G X m_Model_unit C J14 0 0 98 [.ref 88, .int p1, .int p13.1, .null, .null] []) (fun J14 eJ14 => ?_)
        refine kx_go 3 (pc' := if p1 = (40 : Int32) then 104 else 108) (lv' := [.ref 88, .int p1, .int p13.1, .null, .null]) (st' := []) hX ok_Model_unit rfl ?_
        refine kx_no c7 ?_
        refine kx_go 2 (pc' := if p13.1 = (0 : Int32) then 112 else 116) (lv' := [.ref 88, .int p1, .int p13.1, .null, .null]) (st' := []) hX ok_Model_unit rfl ?_
        refine kx_ite (fun c15 => ?_) (fun c15 => ?_)
        · refine kx_go 2 (pc' := 117) (lv' := [.ref 88, .int p1, .int p13.1, .null, .null]) (st' := [.int (1 : Int32)]) hX ok_Model_unit rfl ?_
          intro h; have h := Option.some.inj h; subst h
          exact kx_iret hX hE ok_Model_unit (nx := 118) rfl rfl ⟨Nat.le_of_ble_eq_true rfl, Nat.le_of_ble_eq_true rfl⟩
        · refine kx_go 1 (pc' := 117) (lv' := [.ref 88, .int p1, .int p13.1, .null, .null]) (st' := [.int (0 : Int32)]) hX ok_Model_unit rfl ?_
          intro h; have h := Option.some.inj h; subst h
          exact kx_iret hX hE ok_Model_unit (nx := 118) rfl rfl ⟨Nat.le_of_ble_eq_true rfl, Nat.le_of_ble_eq_true rfl⟩
  · refine kx_go 3 (pc' := if p1 = (40 : Int32) then 17 else 118) (lv' := [.ref 88, .int p1, .null, .null, .null]) (st' := []) hX ok_Model_unit rfl ?_
    refine kx_ite (fun c16 => ?_) (fun c16 => ?_)
    · refine kx_go 1 (pc' := 18) (lv' := [.ref 88, .int p1, .null, .null, .null]) (st' := [.ref 88]) hX ok_Model_unit rfl ?_
      refine kx_geti hX ok_Model_unit rfl (k := 8) (nx := 21) rfl ?_
      refine kx_go 2 (pc' := if (I 88 8) = (5 : Int32) then 25 else 30) (lv' := [.ref 88, .int p1, .null, .null, .null]) (st' := []) hX ok_Model_unit rfl ?_
      refine kx_ite (fun c17 => ?_) (fun c17 => ?_)
      · refine kx_go 1 (pc' := 26) (lv' := [.ref 88, .int p1, .null, .null, .null]) (st' := [.ref 88]) hX ok_Model_unit rfl ?_
        refine kx_lti (fun p18 hp18 => ?_)
        refine kx_V (r := 88) (as := []) (by decide) hX ok_Model_unit (nx := 29) rfl l_Model_113 (by decide) rfl (fun _ => s_Model_wrong (G := G) (d := 0) (Nat.le_refl _) C I  p18 hp18) (by omega) rfl (rest := []) rfl (Nat.le_of_ble_eq_true rfl) ⟨Nat.le_of_ble_eq_true rfl, Nat.le_of_ble_eq_true rfl⟩ ?_
        show _ → kW G X m_Model_unit C p18.2 0 0 29 [.ref 88, .int p1, .null, .null, .null] [.int p18.1]
        intro h; have h := Option.some.inj h; subst h
        exact kx_iret hX hE ok_Model_unit (nx := 30) rfl rfl ⟨Nat.le_of_ble_eq_true rfl, Nat.le_of_ble_eq_true rfl⟩
      · refine kx_go 2 (pc' := 32) (lv' := [.ref 88, .int p1, .null, .null, .null]) (st' := [.ref 88, .ref 88]) hX ok_Model_unit rfl ?_
        refine kx_geti hX ok_Model_unit rfl (k := 8) (nx := 35) rfl ?_
        refine kx_go 2 (pc' := 37) (lv' := [.ref 88, .int p1, .null, .null, .null]) (st' := [.int ((I 88 8) + (1 : Int32)), .ref 88]) hX ok_Model_unit rfl ?_
        refine kx_puti hX ok_Model_unit rfl (k := 8) (nx := 40) rfl rfl ?_
        refine kx_lt (Q := fun J19 => kW G X m_Model_unit C J19 0 0 40 [.ref 88, .int p1, .null, .null, .null] []) (fun J19 eJ19 => ?_)
        refine kx_go 2 (pc' := 42) (lv' := [.ref 88, .int p1, .null, .null, .null]) (st' := [.ref 88, .ref 88]) hX ok_Model_unit rfl ?_
        refine kx_geti hX ok_Model_unit rfl (k := 5) (nx := 45) rfl ?_
        refine kx_go 2 (pc' := 47) (lv' := [.ref 88, .int p1, .null, .null, .null]) (st' := [.int ((J19 88 5) + (1 : Int32)), .ref 88]) hX ok_Model_unit rfl ?_
        refine kx_puti hX ok_Model_unit rfl (k := 5) (nx := 50) rfl rfl ?_
        refine kx_lt (Q := fun J20 => kW G X m_Model_unit C J20 0 0 50 [.ref 88, .int p1, .null, .null, .null] []) (fun J20 eJ20 => ?_)
        refine kx_go 3 (pc' := if p1 = (40 : Int32) then 56 else 63) (lv' := [.ref 88, .int p1, .null, .null, .null]) (st' := []) hX ok_Model_unit rfl ?_
        refine kx_yes c16 ?_
        refine kx_go 1 (pc' := 57) (lv' := [.ref 88, .int p1, .null, .null, .null]) (st' := [.ref 88]) hX ok_Model_unit rfl ?_
        refine kx_bind (fun p21 hp21 => ?_)
        refine kx_V (r := 88) (as := []) (by decide) hX ok_Model_unit (nx := 60) rfl l_Model_116 (by decide) rfl (fun _ => s_Model_either (G := G) (d := du + 5) (Nat.le_refl _) u C J20  hu p21 hp21) (by omega) rfl (rest := []) rfl (Nat.le_of_ble_eq_true rfl) ⟨Nat.le_of_ble_eq_true rfl, Nat.le_of_ble_eq_true rfl⟩ ?_
        show _ → kW G X m_Model_unit C p21.2 0 0 60 [.ref 88, .int p1, .null, .null, .null] [.int p21.1]
        refine kx_go 5 (pc' := if p1 = (40 : Int32) then 74 else 88) (lv' := [.ref 88, .int p1, .int p21.1, .null, .null]) (st' := []) hX ok_Model_unit rfl ?_
        refine kx_yes c16 ?_
        refine kx_go 2 (pc' := 77) (lv' := [.ref 88, .int p1, .int p21.1, .null, .null]) (st' := [.int (41 : Int32), .ref 88]) hX ok_Model_unit rfl ?_
        refine kx_bind (fun p22 hp22 => ?_)
        refine kx_V (r := 88) (as := [.int (41 : Int32)]) (by decide) hX ok_Model_unit (nx := 80) rfl l_Model_94 (by decide) rfl (fun _ => s_Model_takes (G := G) (d := 1) (Nat.le_refl _) C p21.2 (41 : Int32) p22 hp22) (by omega) rfl (rest := []) rfl (Nat.le_of_ble_eq_true rfl) ⟨Nat.le_of_ble_eq_true rfl, Nat.le_of_ble_eq_true rfl⟩ ?_
        show _ → kW G X m_Model_unit C p22.2 0 0 80 [.ref 88, .int p1, .int p21.1, .null, .null] [.int p22.1]
        refine kx_go 1 (pc' := if p22.1 = (0 : Int32) then 83 else 88) (lv' := [.ref 88, .int p1, .int p21.1, .null, .null]) (st' := []) hX ok_Model_unit rfl ?_
        refine kx_ite (fun c23 => ?_) (fun c23 => ?_)
        · refine kx_go 1 (pc' := 84) (lv' := [.ref 88, .int p1, .int p21.1, .null, .null]) (st' := [.ref 88]) hX ok_Model_unit rfl ?_
          refine kx_lti (fun p24 hp24 => ?_)
          refine kx_V (r := 88) (as := []) (by decide) hX ok_Model_unit (nx := 87) rfl l_Model_113 (by decide) rfl (fun _ => s_Model_wrong (G := G) (d := 0) (Nat.le_refl _) C p22.2  p24 hp24) (by omega) rfl (rest := []) rfl (Nat.le_of_ble_eq_true rfl) ⟨Nat.le_of_ble_eq_true rfl, Nat.le_of_ble_eq_true rfl⟩ ?_
          show _ → kW G X m_Model_unit C p24.2 0 0 87 [.ref 88, .int p1, .int p21.1, .null, .null] [.int p24.1]
          intro h; have h := Option.some.inj h; subst h
          exact kx_iret hX hE ok_Model_unit (nx := 88) rfl rfl ⟨Nat.le_of_ble_eq_true rfl, Nat.le_of_ble_eq_true rfl⟩
        · refine kx_go 2 (pc' := 90) (lv' := [.ref 88, .int p1, .int p21.1, .null, .null]) (st' := [.ref 88, .ref 88]) hX ok_Model_unit rfl ?_
          refine kx_geti hX ok_Model_unit rfl (k := 8) (nx := 93) rfl ?_
          refine kx_go 2 (pc' := 95) (lv' := [.ref 88, .int p1, .int p21.1, .null, .null]) (st' := [.int ((p22.2 88 8) - (1 : Int32)), .ref 88]) hX ok_Model_unit rfl ?_
          refine kx_puti hX ok_Model_unit rfl (k := 8) (nx := 98) rfl rfl ?_
          refine kx_lt (Q := fun J25 => kW G X m_Model_unit C J25 0 0 98 [.ref 88, .int p1, .int p21.1, .null, .null] []) (fun J25 eJ25 => ?_)
          refine kx_go 3 (pc' := if p1 = (40 : Int32) then 104 else 108) (lv' := [.ref 88, .int p1, .int p21.1, .null, .null]) (st' := []) hX ok_Model_unit rfl ?_
          refine kx_yes c16 ?_
          refine kx_go 2 (pc' := 117) (lv' := [.ref 88, .int p1, .int p21.1, .null, .null]) (st' := [.int p21.1]) hX ok_Model_unit rfl ?_
          intro h; have h := Option.some.inj h; subst h
          exact kx_iret hX hE ok_Model_unit (nx := 118) rfl rfl ⟨Nat.le_of_ble_eq_true rfl, Nat.le_of_ble_eq_true rfl⟩
    · refine kx_go 2 (pc' := 120) (lv' := [.ref 88, .int p1, .null, .null, .null]) (st' := [.int p1, .ref 88]) hX ok_Model_unit rfl ?_
      refine kx_V (r := 88) (as := [.int p1]) (by decide) hX ok_Model_unit (nx := 123) rfl l_Model_119 (by decide) rfl (fun _ => s_Model_nameOf (G := G) (d := 0) (Nat.le_refl _) C I p1 _ rfl) (by omega) rfl (rest := []) rfl (Nat.le_of_ble_eq_true rfl) ⟨Nat.le_of_ble_eq_true rfl, Nat.le_of_ble_eq_true rfl⟩ ?_
      show _ → kW G X m_Model_unit C I 0 0 123 [.ref 88, .int p1, .null, .null, .null] [.int (M_Model_nameOf I p1)]
      refine kx_go 3 (pc' := if (M_Model_nameOf I p1) < (0 : Int32) then 145 else 128) (lv' := [.ref 88, .int p1, .int (M_Model_nameOf I p1), .null, .null]) (st' := []) hX ok_Model_unit rfl ?_
      refine kx_ite (fun c26 => ?_) (fun c26 => ?_)
      · refine kx_go 4 (pc' := 150) (lv' := [.ref 88, .int p1, .int (M_Model_nameOf I p1), .int (0 : Int32), .int (0 : Int32)]) (st' := []) hX ok_Model_unit rfl ?_
        refine kx_weak (lv' := [.ref 88, .null, .null, .int (0 : Int32), .int (0 : Int32)]) (by simp [xsub]) ?_
        refine kx_bind (fun p27 hp27 => ?_)
        refine kx_via (fun hk => s_L_Model_unit_150 (G := G) (X := X) (by omega) hX u C hu 1000 (0 : Int32) (0 : Int32) I p27 hk hp27) ?_
        refine kx_go 2 (pc' := if p27.2.1 = (0 : Int32) then 207 else 214) (lv' := [.ref 88, .null, .null, .int p27.1, .int p27.2.1]) (st' := []) hX ok_Model_unit rfl ?_
        refine kx_ite (fun c28 => ?_) (fun c28 => ?_)
        · refine kx_go 1 (pc' := 208) (lv' := [.ref 88, .null, .null, .int p27.1, .int p27.2.1]) (st' := [.ref 88]) hX ok_Model_unit rfl ?_
          refine kx_lti (fun p29 hp29 => ?_)
          refine kx_V (r := 88) (as := []) (by decide) hX ok_Model_unit (nx := 211) rfl l_Model_113 (by decide) rfl (fun _ => s_Model_wrong (G := G) (d := 0) (Nat.le_refl _) C p27.2.2  p29 hp29) (by omega) rfl (rest := []) rfl (Nat.le_of_ble_eq_true rfl) ⟨Nat.le_of_ble_eq_true rfl, Nat.le_of_ble_eq_true rfl⟩ ?_
          show _ → kW G X m_Model_unit C p29.2 0 0 211 [.ref 88, .null, .null, .int p27.1, .int p27.2.1] [.int p29.1]
          refine kx_go 1 (pc' := 215) (lv' := [.ref 88, .null, .null, .int p27.1, .int p27.2.1]) (st' := [.int p29.1]) hX ok_Model_unit rfl ?_
          intro h; have h := Option.some.inj h; subst h
          exact kx_iret hX hE ok_Model_unit (nx := 216) rfl rfl ⟨Nat.le_of_ble_eq_true rfl, Nat.le_of_ble_eq_true rfl⟩
        · refine kx_go 1 (pc' := 215) (lv' := [.ref 88, .null, .null, .int p27.1, .int p27.2.1]) (st' := [.int p27.1]) hX ok_Model_unit rfl ?_
          intro h; have h := Option.some.inj h; subst h
          exact kx_iret hX hE ok_Model_unit (nx := 216) rfl rfl ⟨Nat.le_of_ble_eq_true rfl, Nat.le_of_ble_eq_true rfl⟩
      · refine kx_go 2 (pc' := 130) (lv' := [.ref 88, .int p1, .int (M_Model_nameOf I p1), .null, .null]) (st' := [.ref 88, .ref 88]) hX ok_Model_unit rfl ?_
        refine kx_geti hX ok_Model_unit rfl (k := 5) (nx := 133) rfl ?_
        refine kx_go 2 (pc' := 135) (lv' := [.ref 88, .int p1, .int (M_Model_nameOf I p1), .null, .null]) (st' := [.int ((I 88 5) + (1 : Int32)), .ref 88]) hX ok_Model_unit rfl ?_
        refine kx_puti hX ok_Model_unit rfl (k := 5) (nx := 138) rfl rfl ?_
        refine kx_lt (Q := fun J30 => kW G X m_Model_unit C J30 0 0 138 [.ref 88, .int p1, .int (M_Model_nameOf I p1), .null, .null] []) (fun J30 eJ30 => ?_)
        refine kx_go 1 (pc' := 139) (lv' := [.ref 88, .int p1, .int (M_Model_nameOf I p1), .null, .null]) (st' := [.ref 88]) hX ok_Model_unit rfl ?_
        refine kx_getp hX ok_Model_unit rfl (q := 92) (nx := 142) rfl ?_
        refine kx_go 1 (pc' := 143) (lv' := [.ref 88, .int p1, .int (M_Model_nameOf I p1), .null, .null]) (st' := [.int (M_Model_nameOf I p1), .ref 92]) hX ok_Model_unit rfl ?_
        refine kx_iald hX ok_Model_unit (w := 4) (nx := 144) rfl (fun b31 => ?_)
        intro h; have h := Option.some.inj h; subst h
        exact kx_iret hX hE ok_Model_unit (nx := 145) rfl rfl ⟨Nat.le_of_ble_eq_true rfl, Nat.le_of_ble_eq_true rfl⟩
def U_unit : Nat → HI → Option (Int32 × HI)
  | 0, _ => none
  | f + 1, I => M_Model_unit (U_unit f) I
theorem s_U_unit {G : xG} (C : HC) : ∀ (f : Nat) (I : HI) (r : Int32 × HI), U_unit f I = some r → kM G (6 * f) m_Model_unit [.ref 88] C I 0 0 (some (.int r.1)) C r.2 := by
  intro f
  induction f with
  | zero => intro I r h; rw [U_unit] at h; cases h
  | succ f ih =>
    intro I r h
    rw [U_unit] at h
    exact s_Model_unit (du := 6 * f) (by omega) (U_unit f) C I ih r h
