def M_Model_put (I : HI) (x1 : Int32) (x2 : Int32) (x3 : Int32) : Option (Int32 × HI) := if (M_Model_isSheet x1) = (0 : Int32) then (Option.bind (M_Model_finds I (1 : Int32)) fun p2 => some (p2.1, p2.2)) else (grd (bnd x1 4) (if (I 103 x1.toNatClampNeg) = (0 : Int32) then (Option.bind (M_Model_finds I (2 : Int32)) fun p5 => some (p5.1, p5.2)) else (if (M_Model_in (x2.toInt64) (Int64.ofNat 0) (((I 104 x1.toNatClampNeg) - (1 : Int32)).toInt64)) = (0 : Int32) then (Option.bind (M_Model_finds I (1 : Int32)) fun p7 => some (p7.1, p7.2)) else (if (I 103 x1.toNatClampNeg) = (8 : Int32) then (grd (bnd (((40 : Int32) * x1) + x2) 160) (lt (xu I 105 (((40 : Int32) * x1) + x2).toNatClampNeg (x3.toInt8.toInt32)) fun J10 => some ((1 : Int32), J10))) else (if (I 103 x1.toNatClampNeg) = (16 : Int32) then (grd (bnd (((40 : Int32) * x1) + x2) 160) (lt (xu I 105 (((40 : Int32) * x1) + x2).toNatClampNeg (x3.toInt16.toInt32)) fun J13 => some ((1 : Int32), J13))) else (grd (bnd (((40 : Int32) * x1) + x2) 160) (lt (xu I 105 (((40 : Int32) * x1) + x2).toNatClampNeg x3) fun J15 => some ((1 : Int32), J15))))))))
theorem s_Model_put {G : xG} {d : Nat} (hd : 2 ≤ d) (C : HC) (I : HI) (x1 : Int32) (x2 : Int32) (x3 : Int32)  (r : Int32 × HI) : M_Model_put I x1 x2 x3 = some r → kM G d m_Model_put [.ref 88, .int x1, .int x2, .int x3] C I 0 0 (some (.int r.1)) C r.2 := by
  unfold M_Model_put
  refine kM.of (by decide +kernel) (Nat.le_of_ble_eq_true rfl) (lv := [.ref 88, .int x1, .int x2, .int x3]) rfl (fun X hX hE => ?_)
  refine kx_go 1 (pc' := 1) (lv' := [.ref 88, .int x1, .int x2, .int x3]) (st' := [.int x1]) hX ok_Model_put rfl ?_
  refine kx_S (as := [.int x1]) hX ok_Model_put (nx := 4) rfl l_Model_300 (fun _ => s_Model_isSheet (G := G) (d := 1) (Nat.le_refl _) C I x1 _ rfl) (by omega) rfl (rest := []) rfl (Nat.le_of_ble_eq_true rfl) ⟨Nat.le_of_ble_eq_true rfl, Nat.le_of_ble_eq_true rfl⟩ ?_
  show _ → kW G X m_Model_put C I 0 0 4 [.ref 88, .int x1, .int x2, .int x3] [.int (M_Model_isSheet x1)]
  refine kx_go 1 (pc' := if (M_Model_isSheet x1) = (0 : Int32) then 7 else 13) (lv' := [.ref 88, .int x1, .int x2, .int x3]) (st' := []) hX ok_Model_put rfl ?_
  refine kx_ite (fun c1 => ?_) (fun c1 => ?_)
  · refine kx_go 2 (pc' := 9) (lv' := [.ref 88, .int x1, .int x2, .int x3]) (st' := [.int (1 : Int32), .ref 88]) hX ok_Model_put rfl ?_
    refine kx_bind (fun p2 hp2 => ?_)
    refine kx_V (r := 88) (as := [.int (1 : Int32)]) (by decide) hX ok_Model_put (nx := 12) rfl l_Model_129 (by decide) rfl (fun _ => s_Model_finds (G := G) (d := 0) (Nat.le_refl _) C I (1 : Int32) p2 hp2) (by omega) rfl (rest := []) rfl (Nat.le_of_ble_eq_true rfl) ⟨Nat.le_of_ble_eq_true rfl, Nat.le_of_ble_eq_true rfl⟩ ?_
    show _ → kW G X m_Model_put C p2.2 0 0 12 [.ref 88, .int x1, .int x2, .int x3] [.int p2.1]
    intro h; have h := Option.some.inj h; subst h
    exact kx_iret hX hE ok_Model_put (nx := 13) rfl rfl ⟨Nat.le_of_ble_eq_true rfl, Nat.le_of_ble_eq_true rfl⟩
  · refine kx_go 1 (pc' := 14) (lv' := [.ref 88, .int x1, .int x2, .int x3]) (st' := [.ref 88]) hX ok_Model_put rfl ?_
    refine kx_getp hX ok_Model_put rfl (q := 103) (nx := 17) rfl ?_
    refine kx_go 1 (pc' := 18) (lv' := [.ref 88, .int x1, .int x2, .int x3]) (st' := [.int x1, .ref 103]) hX ok_Model_put rfl ?_
    refine kx_iald hX ok_Model_put (w := 4) (nx := 19) rfl (fun b3 => ?_)
    refine kx_go 1 (pc' := if (I 103 x1.toNatClampNeg) = (0 : Int32) then 22 else 28) (lv' := [.ref 88, .int x1, .int x2, .int x3]) (st' := []) hX ok_Model_put rfl ?_
    refine kx_ite (fun c4 => ?_) (fun c4 => ?_)
    · refine kx_go 2 (pc' := 24) (lv' := [.ref 88, .int x1, .int x2, .int x3]) (st' := [.int (2 : Int32), .ref 88]) hX ok_Model_put rfl ?_
      refine kx_bind (fun p5 hp5 => ?_)
      refine kx_V (r := 88) (as := [.int (2 : Int32)]) (by decide) hX ok_Model_put (nx := 27) rfl l_Model_129 (by decide) rfl (fun _ => s_Model_finds (G := G) (d := 0) (Nat.le_refl _) C I (2 : Int32) p5 hp5) (by omega) rfl (rest := []) rfl (Nat.le_of_ble_eq_true rfl) ⟨Nat.le_of_ble_eq_true rfl, Nat.le_of_ble_eq_true rfl⟩ ?_
      show _ → kW G X m_Model_put C p5.2 0 0 27 [.ref 88, .int x1, .int x2, .int x3] [.int p5.1]
      intro h; have h := Option.some.inj h; subst h
      exact kx_iret hX hE ok_Model_put (nx := 28) rfl rfl ⟨Nat.le_of_ble_eq_true rfl, Nat.le_of_ble_eq_true rfl⟩
    · refine kx_go 4 (pc' := 32) (lv' := [.ref 88, .int x1, .int x2, .int x3]) (st' := [.ref 88, .long (Int64.ofNat 0), .long (x2.toInt64)]) hX ok_Model_put rfl ?_
      refine kx_getp hX ok_Model_put rfl (q := 104) (nx := 35) rfl ?_
      refine kx_go 1 (pc' := 36) (lv' := [.ref 88, .int x1, .int x2, .int x3]) (st' := [.int x1, .ref 104, .long (Int64.ofNat 0), .long (x2.toInt64)]) hX ok_Model_put rfl ?_
      refine kx_ialdc hX ok_Model_put (w := 4) (nx := 37) rfl b3 (k := x1.toNatClampNeg) rfl ?_
      refine kx_go 3 (pc' := 40) (lv' := [.ref 88, .int x1, .int x2, .int x3]) (st' := [.long (((I 104 x1.toNatClampNeg) - (1 : Int32)).toInt64), .long (Int64.ofNat 0), .long (x2.toInt64)]) hX ok_Model_put rfl ?_
      refine kx_S (as := [.long (x2.toInt64), .long (Int64.ofNat 0), .long (((I 104 x1.toNatClampNeg) - (1 : Int32)).toInt64)]) hX ok_Model_put (nx := 43) rfl l_Model_66 (fun _ => s_Model_in (G := G) (d := 0) (Nat.le_refl _) C I (x2.toInt64) (Int64.ofNat 0) (((I 104 x1.toNatClampNeg) - (1 : Int32)).toInt64) _ rfl) (by omega) rfl (rest := []) rfl (Nat.le_of_ble_eq_true rfl) ⟨Nat.le_of_ble_eq_true rfl, Nat.le_of_ble_eq_true rfl⟩ ?_
      show _ → kW G X m_Model_put C I 0 0 43 [.ref 88, .int x1, .int x2, .int x3] [.int (M_Model_in (x2.toInt64) (Int64.ofNat 0) (((I 104 x1.toNatClampNeg) - (1 : Int32)).toInt64))]
      refine kx_go 1 (pc' := if (M_Model_in (x2.toInt64) (Int64.ofNat 0) (((I 104 x1.toNatClampNeg) - (1 : Int32)).toInt64)) = (0 : Int32) then 46 else 52) (lv' := [.ref 88, .int x1, .int x2, .int x3]) (st' := []) hX ok_Model_put rfl ?_
      refine kx_ite (fun c6 => ?_) (fun c6 => ?_)
      · refine kx_go 2 (pc' := 48) (lv' := [.ref 88, .int x1, .int x2, .int x3]) (st' := [.int (1 : Int32), .ref 88]) hX ok_Model_put rfl ?_
        refine kx_bind (fun p7 hp7 => ?_)
        refine kx_V (r := 88) (as := [.int (1 : Int32)]) (by decide) hX ok_Model_put (nx := 51) rfl l_Model_129 (by decide) rfl (fun _ => s_Model_finds (G := G) (d := 0) (Nat.le_refl _) C I (1 : Int32) p7 hp7) (by omega) rfl (rest := []) rfl (Nat.le_of_ble_eq_true rfl) ⟨Nat.le_of_ble_eq_true rfl, Nat.le_of_ble_eq_true rfl⟩ ?_
        show _ → kW G X m_Model_put C p7.2 0 0 51 [.ref 88, .int x1, .int x2, .int x3] [.int p7.1]
        intro h; have h := Option.some.inj h; subst h
        exact kx_iret hX hE ok_Model_put (nx := 52) rfl rfl ⟨Nat.le_of_ble_eq_true rfl, Nat.le_of_ble_eq_true rfl⟩
      · refine kx_go 1 (pc' := 53) (lv' := [.ref 88, .int x1, .int x2, .int x3]) (st' := [.ref 88]) hX ok_Model_put rfl ?_
        refine kx_getp hX ok_Model_put rfl (q := 105) (nx := 56) rfl ?_
        refine kx_go 6 (pc' := 63) (lv' := [.ref 88, .int x1, .int x2, .int x3]) (st' := [.ref 88, .int (((40 : Int32) * x1) + x2), .ref 105]) hX ok_Model_put rfl ?_
        refine kx_getp hX ok_Model_put rfl (q := 103) (nx := 66) rfl ?_
        refine kx_go 1 (pc' := 67) (lv' := [.ref 88, .int x1, .int x2, .int x3]) (st' := [.int x1, .ref 103, .int (((40 : Int32) * x1) + x2), .ref 105]) hX ok_Model_put rfl ?_
        refine kx_ialdc hX ok_Model_put (w := 4) (nx := 68) rfl b3 (k := x1.toNatClampNeg) rfl ?_
        refine kx_go 2 (pc' := if (I 103 x1.toNatClampNeg) = (8 : Int32) then 73 else 78) (lv' := [.ref 88, .int x1, .int x2, .int x3]) (st' := [.int (((40 : Int32) * x1) + x2), .ref 105]) hX ok_Model_put rfl ?_
        refine kx_ite (fun c8 => ?_) (fun c8 => ?_)
        · refine kx_go 3 (pc' := 95) (lv' := [.ref 88, .int x1, .int x2, .int x3]) (st' := [.int (x3.toInt8.toInt32), .int (((40 : Int32) * x1) + x2), .ref 105]) hX ok_Model_put rfl ?_
          refine kx_iast hX ok_Model_put (w := 160) (nx := 96) rfl (fun b9 => ?_)
          refine kx_lt (Q := fun J10 => kW G X m_Model_put C J10 0 0 96 [.ref 88, .int x1, .int x2, .int x3] []) (fun J10 eJ10 => ?_)
          refine kx_go 1 (pc' := 97) (lv' := [.ref 88, .int x1, .int x2, .int x3]) (st' := [.int (1 : Int32)]) hX ok_Model_put rfl ?_
          intro h; have h := Option.some.inj h; subst h
          exact kx_iret hX hE ok_Model_put (nx := 98) rfl rfl ⟨Nat.le_of_ble_eq_true rfl, Nat.le_of_ble_eq_true rfl⟩
        · refine kx_go 1 (pc' := 79) (lv' := [.ref 88, .int x1, .int x2, .int x3]) (st' := [.ref 88, .int (((40 : Int32) * x1) + x2), .ref 105]) hX ok_Model_put rfl ?_
          refine kx_getp hX ok_Model_put rfl (q := 103) (nx := 82) rfl ?_
          refine kx_go 1 (pc' := 83) (lv' := [.ref 88, .int x1, .int x2, .int x3]) (st' := [.int x1, .ref 103, .int (((40 : Int32) * x1) + x2), .ref 105]) hX ok_Model_put rfl ?_
          refine kx_ialdc hX ok_Model_put (w := 4) (nx := 84) rfl b3 (k := x1.toNatClampNeg) rfl ?_
          refine kx_go 2 (pc' := if (I 103 x1.toNatClampNeg) = (16 : Int32) then 89 else 94) (lv' := [.ref 88, .int x1, .int x2, .int x3]) (st' := [.int (((40 : Int32) * x1) + x2), .ref 105]) hX ok_Model_put rfl ?_
          refine kx_ite (fun c11 => ?_) (fun c11 => ?_)
          · refine kx_go 3 (pc' := 95) (lv' := [.ref 88, .int x1, .int x2, .int x3]) (st' := [.int (x3.toInt16.toInt32), .int (((40 : Int32) * x1) + x2), .ref 105]) hX ok_Model_put rfl ?_
            refine kx_iast hX ok_Model_put (w := 160) (nx := 96) rfl (fun b12 => ?_)
            refine kx_lt (Q := fun J13 => kW G X m_Model_put C J13 0 0 96 [.ref 88, .int x1, .int x2, .int x3] []) (fun J13 eJ13 => ?_)
            refine kx_go 1 (pc' := 97) (lv' := [.ref 88, .int x1, .int x2, .int x3]) (st' := [.int (1 : Int32)]) hX ok_Model_put rfl ?_
            intro h; have h := Option.some.inj h; subst h
            exact kx_iret hX hE ok_Model_put (nx := 98) rfl rfl ⟨Nat.le_of_ble_eq_true rfl, Nat.le_of_ble_eq_true rfl⟩
          · refine kx_go 1 (pc' := 95) (lv' := [.ref 88, .int x1, .int x2, .int x3]) (st' := [.int x3, .int (((40 : Int32) * x1) + x2), .ref 105]) hX ok_Model_put rfl ?_
            refine kx_iast hX ok_Model_put (w := 160) (nx := 96) rfl (fun b14 => ?_)
            refine kx_lt (Q := fun J15 => kW G X m_Model_put C J15 0 0 96 [.ref 88, .int x1, .int x2, .int x3] []) (fun J15 eJ15 => ?_)
            refine kx_go 1 (pc' := 97) (lv' := [.ref 88, .int x1, .int x2, .int x3]) (st' := [.int (1 : Int32)]) hX ok_Model_put rfl ?_
            intro h; have h := Option.some.inj h; subst h
            exact kx_iret hX hE ok_Model_put (nx := 98) rfl rfl ⟨Nat.le_of_ble_eq_true rfl, Nat.le_of_ble_eq_true rfl⟩
def L_Model_move_115 (x1 : Int32) (x2 : Int32) (x3 : Int32) (x4 : Int32) (x5 : Int32) : Nat → Int32 → HI → Option (HI)
  | 0, _, _ => none
  | f + 1, x6, I => if x5 ≤ x6 then (some I) else (grd (bnd ((((40 : Int32) * x1) + x2) + x6) 160) (grd (bnd x6 40) (lt (xu I 106 x6.toNatClampNeg (I 105 ((((40 : Int32) * x1) + x2) + x6).toNatClampNeg)) fun J4 => L_Model_move_115 x1 x2 x3 x4 x5 f (x6 + (1 : Int32)) J4)))
theorem s_L_Model_move_115 {G : xG} {X : xC} {d : Nat} (hd : 2 ≤ d) (hX : xAmb G X m_Model_move d 0 0)  (C : HC) (x1 : Int32) (x2 : Int32) (x3 : Int32) (x4 : Int32) (x5 : Int32) : ∀ (f : Nat) (x6 : Int32) (I : HI) (r : HI), (kW G X m_Model_move C r 0 0 149 [.ref 88, .null, .null, .int x3, .int x4, .int x5, .null] []) → L_Model_move_115 x1 x2 x3 x4 x5 f x6 I = some r → kW G X m_Model_move C I 0 0 115 [.ref 88, .int x1, .int x2, .int x3, .int x4, .int x5, .int x6] [] := by
  intro f
  induction f with
  | zero => intro x6 I r hk h; rw [L_Model_move_115] at h; cases h
  | succ f ih =>
    intro x6 I r hk
    rw [L_Model_move_115]
    refine kx_go 3 (pc' := if x5 ≤ x6 then 149 else 122) (lv' := [.ref 88, .int x1, .int x2, .int x3, .int x4, .int x5, .int x6]) (st' := []) hX ok_Model_move rfl ?_
    refine kx_ite (fun c1 => ?_) (fun c1 => ?_)
    · refine kx_weak (lv' := [.ref 88, .null, .null, .int x3, .int x4, .int x5, .null]) (by simp [xsub]) ?_
      intro h; have h := Option.some.inj h; subst h
      exact hk
    · refine kx_go 1 (pc' := 123) (lv' := [.ref 88, .int x1, .int x2, .int x3, .int x4, .int x5, .int x6]) (st' := [.ref 88]) hX ok_Model_move rfl ?_
      refine kx_getp hX ok_Model_move rfl (q := 106) (nx := 126) rfl ?_
      refine kx_go 2 (pc' := 129) (lv' := [.ref 88, .int x1, .int x2, .int x3, .int x4, .int x5, .int x6]) (st' := [.ref 88, .int x6, .ref 106]) hX ok_Model_move rfl ?_
      refine kx_getp hX ok_Model_move rfl (q := 105) (nx := 132) rfl ?_
      refine kx_go 7 (pc' := 141) (lv' := [.ref 88, .int x1, .int x2, .int x3, .int x4, .int x5, .int x6]) (st' := [.int ((((40 : Int32) * x1) + x2) + x6), .ref 105, .int x6, .ref 106]) hX ok_Model_move rfl ?_
      refine kx_iald hX ok_Model_move (w := 160) (nx := 142) rfl (fun b2 => ?_)
      refine kx_iast hX ok_Model_move (w := 40) (nx := 143) rfl (fun b3 => ?_)
      refine kx_lt (Q := fun J4 => kW G X m_Model_move C J4 0 0 143 [.ref 88, .int x1, .int x2, .int x3, .int x4, .int x5, .int x6] []) (fun J4 eJ4 => ?_)
      refine kx_go 2 (pc' := 115) (lv' := [.ref 88, .int x1, .int x2, .int x3, .int x4, .int x5, .int (x6 + (1 : Int32))]) (st' := []) hX ok_Model_move rfl ?_
      exact fun h => ih (x6 + (1 : Int32)) J4 r hk h
def L_Model_move_152 (x3 : Int32) (x4 : Int32) (x5 : Int32) : Nat → Int32 → HI → Option (HI)
  | 0, _, _ => none
  | f + 1, x6, I => if x5 ≤ x6 then (some I) else (grd (bnd x6 40) (grd (bnd ((((40 : Int32) * x3) + x4) + x6) 160) (lt (xu I 105 ((((40 : Int32) * x3) + x4) + x6).toNatClampNeg (I 106 x6.toNatClampNeg)) fun J4 => L_Model_move_152 x3 x4 x5 f (x6 + (1 : Int32)) J4)))
theorem s_L_Model_move_152 {G : xG} {X : xC} {d : Nat} (hd : 2 ≤ d) (hX : xAmb G X m_Model_move d 0 0)  (C : HC) (x3 : Int32) (x4 : Int32) (x5 : Int32) : ∀ (f : Nat) (x6 : Int32) (I : HI) (r : HI), (kW G X m_Model_move C r 0 0 187 [.null, .null, .null, .null, .null, .int x5, .null] []) → L_Model_move_152 x3 x4 x5 f x6 I = some r → kW G X m_Model_move C I 0 0 152 [.ref 88, .null, .null, .int x3, .int x4, .int x5, .int x6] [] := by
  intro f
  induction f with
  | zero => intro x6 I r hk h; rw [L_Model_move_152] at h; cases h
  | succ f ih =>
    intro x6 I r hk
    rw [L_Model_move_152]
    refine kx_go 3 (pc' := if x5 ≤ x6 then 187 else 159) (lv' := [.ref 88, .null, .null, .int x3, .int x4, .int x5, .int x6]) (st' := []) hX ok_Model_move rfl ?_
    refine kx_ite (fun c1 => ?_) (fun c1 => ?_)
    · refine kx_weak (lv' := [.null, .null, .null, .null, .null, .int x5, .null]) (by simp [xsub]) ?_
      intro h; have h := Option.some.inj h; subst h
      exact hk
    · refine kx_go 1 (pc' := 160) (lv' := [.ref 88, .null, .null, .int x3, .int x4, .int x5, .int x6]) (st' := [.ref 88]) hX ok_Model_move rfl ?_
      refine kx_getp hX ok_Model_move rfl (q := 105) (nx := 163) rfl ?_
      refine kx_go 8 (pc' := 174) (lv' := [.ref 88, .null, .null, .int x3, .int x4, .int x5, .int x6]) (st' := [.ref 88, .int ((((40 : Int32) * x3) + x4) + x6), .ref 105]) hX ok_Model_move rfl ?_
      refine kx_getp hX ok_Model_move rfl (q := 106) (nx := 177) rfl ?_
      refine kx_go 1 (pc' := 179) (lv' := [.ref 88, .null, .null, .int x3, .int x4, .int x5, .int x6]) (st' := [.int x6, .ref 106, .int ((((40 : Int32) * x3) + x4) + x6), .ref 105]) hX ok_Model_move rfl ?_
      refine kx_iald hX ok_Model_move (w := 40) (nx := 180) rfl (fun b2 => ?_)
      refine kx_iast hX ok_Model_move (w := 160) (nx := 181) rfl (fun b3 => ?_)
      refine kx_lt (Q := fun J4 => kW G X m_Model_move C J4 0 0 181 [.ref 88, .null, .null, .int x3, .int x4, .int x5, .int x6] []) (fun J4 eJ4 => ?_)
      refine kx_go 2 (pc' := 152) (lv' := [.ref 88, .null, .null, .int x3, .int x4, .int x5, .int (x6 + (1 : Int32))]) (st' := []) hX ok_Model_move rfl ?_
      exact fun h => ih (x6 + (1 : Int32)) J4 r hk h
def M_Model_move (I : HI) (x1 : Int32) (x2 : Int32) (x3 : Int32) (x4 : Int32) (x5 : Int32) : Option (Int32 × HI) := if (M_Model_isSheet x1) = (0 : Int32) then (Option.bind (M_Model_finds I (1 : Int32)) fun p2 => some (p2.1, p2.2)) else (if (M_Model_isSheet x3) = (0 : Int32) then (Option.bind (M_Model_finds I (1 : Int32)) fun p4 => some (p4.1, p4.2)) else (grd (bnd x1 4) (if (I 103 x1.toNatClampNeg) = (0 : Int32) then (Option.bind (M_Model_finds I (2 : Int32)) fun p7 => some (p7.1, p7.2)) else (grd (bnd x3 4) (if (I 103 x3.toNatClampNeg) = (0 : Int32) then (Option.bind (M_Model_finds I (2 : Int32)) fun p10 => some (p10.1, p10.2)) else (if (I 103 x1.toNatClampNeg) = (I 103 x3.toNatClampNeg) then (if x5 < (0 : Int32) then (Option.bind (M_Model_finds I (1 : Int32)) fun p13 => some (p13.1, p13.2)) else (if x2 < (0 : Int32) then (Option.bind (M_Model_finds I (1 : Int32)) fun p15 => some (p15.1, p15.2)) else (if x4 < (0 : Int32) then (Option.bind (M_Model_finds I (1 : Int32)) fun p17 => some (p17.1, p17.2)) else (if ((I 104 x1.toNatClampNeg) - x2) < x5 then (Option.bind (M_Model_finds I (1 : Int32)) fun p19 => some (p19.1, p19.2)) else (if x5 ≤ ((I 104 x3.toNatClampNeg) - x4) then (Option.bind (L_Model_move_115 x1 x2 x3 x4 x5 1000 (0 : Int32) I) fun p21 => Option.bind (L_Model_move_152 x3 x4 x5 1000 (0 : Int32) p21) fun p22 => some (x5, p22)) else (Option.bind (M_Model_finds I (1 : Int32)) fun p23 => some (p23.1, p23.2))))))) else (Option.bind (M_Model_finds I (5 : Int32)) fun p24 => some (p24.1, p24.2))))))))
theorem s_Model_move {G : xG} {d : Nat} (hd : 2 ≤ d) (C : HC) (I : HI) (x1 : Int32) (x2 : Int32) (x3 : Int32) (x4 : Int32) (x5 : Int32)  (r : Int32 × HI) : M_Model_move I x1 x2 x3 x4 x5 = some r → kM G d m_Model_move [.ref 88, .int x1, .int x2, .int x3, .int x4, .int x5] C I 0 0 (some (.int r.1)) C r.2 := by
  unfold M_Model_move
  refine kM.of (by decide +kernel) (Nat.le_of_ble_eq_true rfl) (lv := [.ref 88, .int x1, .int x2, .int x3, .int x4, .int x5, .null]) rfl (fun X hX hE => ?_)
  refine kx_go 1 (pc' := 1) (lv' := [.ref 88, .int x1, .int x2, .int x3, .int x4, .int x5, .null]) (st' := [.int x1]) hX ok_Model_move rfl ?_
  refine kx_S (as := [.int x1]) hX ok_Model_move (nx := 4) rfl l_Model_300 (fun _ => s_Model_isSheet (G := G) (d := 1) (Nat.le_refl _) C I x1 _ rfl) (by omega) rfl (rest := []) rfl (Nat.le_of_ble_eq_true rfl) ⟨Nat.le_of_ble_eq_true rfl, Nat.le_of_ble_eq_true rfl⟩ ?_
  show _ → kW G X m_Model_move C I 0 0 4 [.ref 88, .int x1, .int x2, .int x3, .int x4, .int x5, .null] [.int (M_Model_isSheet x1)]
  refine kx_go 1 (pc' := if (M_Model_isSheet x1) = (0 : Int32) then 14 else 7) (lv' := [.ref 88, .int x1, .int x2, .int x3, .int x4, .int x5, .null]) (st' := []) hX ok_Model_move rfl ?_
  refine kx_ite (fun c1 => ?_) (fun c1 => ?_)
  · refine kx_go 2 (pc' := 16) (lv' := [.ref 88, .int x1, .int x2, .int x3, .int x4, .int x5, .null]) (st' := [.int (1 : Int32), .ref 88]) hX ok_Model_move rfl ?_
    refine kx_bind (fun p2 hp2 => ?_)
    refine kx_V (r := 88) (as := [.int (1 : Int32)]) (by decide) hX ok_Model_move (nx := 19) rfl l_Model_129 (by decide) rfl (fun _ => s_Model_finds (G := G) (d := 0) (Nat.le_refl _) C I (1 : Int32) p2 hp2) (by omega) rfl (rest := []) rfl (Nat.le_of_ble_eq_true rfl) ⟨Nat.le_of_ble_eq_true rfl, Nat.le_of_ble_eq_true rfl⟩ ?_
    show _ → kW G X m_Model_move C p2.2 0 0 19 [.ref 88, .int x1, .int x2, .int x3, .int x4, .int x5, .null] [.int p2.1]
    intro h; have h := Option.some.inj h; subst h
    exact kx_iret hX hE ok_Model_move (nx := 20) rfl rfl ⟨Nat.le_of_ble_eq_true rfl, Nat.le_of_ble_eq_true rfl⟩
  · refine kx_go 1 (pc' := 8) (lv' := [.ref 88, .int x1, .int x2, .int x3, .int x4, .int x5, .null]) (st' := [.int x3]) hX ok_Model_move rfl ?_
    refine kx_S (as := [.int x3]) hX ok_Model_move (nx := 11) rfl l_Model_300 (fun _ => s_Model_isSheet (G := G) (d := 1) (Nat.le_refl _) C I x3 _ rfl) (by omega) rfl (rest := []) rfl (Nat.le_of_ble_eq_true rfl) ⟨Nat.le_of_ble_eq_true rfl, Nat.le_of_ble_eq_true rfl⟩ ?_
    show _ → kW G X m_Model_move C I 0 0 11 [.ref 88, .int x1, .int x2, .int x3, .int x4, .int x5, .null] [.int (M_Model_isSheet x3)]
    refine kx_go 1 (pc' := if (M_Model_isSheet x3) = (0 : Int32) then 14 else 20) (lv' := [.ref 88, .int x1, .int x2, .int x3, .int x4, .int x5, .null]) (st' := []) hX ok_Model_move rfl ?_
    refine kx_ite (fun c3 => ?_) (fun c3 => ?_)
    · refine kx_go 2 (pc' := 16) (lv' := [.ref 88, .int x1, .int x2, .int x3, .int x4, .int x5, .null]) (st' := [.int (1 : Int32), .ref 88]) hX ok_Model_move rfl ?_
      refine kx_bind (fun p4 hp4 => ?_)
      refine kx_V (r := 88) (as := [.int (1 : Int32)]) (by decide) hX ok_Model_move (nx := 19) rfl l_Model_129 (by decide) rfl (fun _ => s_Model_finds (G := G) (d := 0) (Nat.le_refl _) C I (1 : Int32) p4 hp4) (by omega) rfl (rest := []) rfl (Nat.le_of_ble_eq_true rfl) ⟨Nat.le_of_ble_eq_true rfl, Nat.le_of_ble_eq_true rfl⟩ ?_
      show _ → kW G X m_Model_move C p4.2 0 0 19 [.ref 88, .int x1, .int x2, .int x3, .int x4, .int x5, .null] [.int p4.1]
      intro h; have h := Option.some.inj h; subst h
      exact kx_iret hX hE ok_Model_move (nx := 20) rfl rfl ⟨Nat.le_of_ble_eq_true rfl, Nat.le_of_ble_eq_true rfl⟩
    · refine kx_go 1 (pc' := 21) (lv' := [.ref 88, .int x1, .int x2, .int x3, .int x4, .int x5, .null]) (st' := [.ref 88]) hX ok_Model_move rfl ?_
      refine kx_getp hX ok_Model_move rfl (q := 103) (nx := 24) rfl ?_
      refine kx_go 1 (pc' := 25) (lv' := [.ref 88, .int x1, .int x2, .int x3, .int x4, .int x5, .null]) (st' := [.int x1, .ref 103]) hX ok_Model_move rfl ?_
      refine kx_iald hX ok_Model_move (w := 4) (nx := 26) rfl (fun b5 => ?_)
      refine kx_go 1 (pc' := if (I 103 x1.toNatClampNeg) = (0 : Int32) then 38 else 29) (lv' := [.ref 88, .int x1, .int x2, .int x3, .int x4, .int x5, .null]) (st' := []) hX ok_Model_move rfl ?_
      refine kx_ite (fun c6 => ?_) (fun c6 => ?_)
      · refine kx_go 2 (pc' := 40) (lv' := [.ref 88, .int x1, .int x2, .int x3, .int x4, .int x5, .null]) (st' := [.int (2 : Int32), .ref 88]) hX ok_Model_move rfl ?_
        refine kx_bind (fun p7 hp7 => ?_)
        refine kx_V (r := 88) (as := [.int (2 : Int32)]) (by decide) hX ok_Model_move (nx := 43) rfl l_Model_129 (by decide) rfl (fun _ => s_Model_finds (G := G) (d := 0) (Nat.le_refl _) C I (2 : Int32) p7 hp7) (by omega) rfl (rest := []) rfl (Nat.le_of_ble_eq_true rfl) ⟨Nat.le_of_ble_eq_true rfl, Nat.le_of_ble_eq_true rfl⟩ ?_
        show _ → kW G X m_Model_move C p7.2 0 0 43 [.ref 88, .int x1, .int x2, .int x3, .int x4, .int x5, .null] [.int p7.1]
        intro h; have h := Option.some.inj h; subst h
        exact kx_iret hX hE ok_Model_move (nx := 44) rfl rfl ⟨Nat.le_of_ble_eq_true rfl, Nat.le_of_ble_eq_true rfl⟩
      · refine kx_go 1 (pc' := 30) (lv' := [.ref 88, .int x1, .int x2, .int x3, .int x4, .int x5, .null]) (st' := [.ref 88]) hX ok_Model_move rfl ?_
        refine kx_getp hX ok_Model_move rfl (q := 103) (nx := 33) rfl ?_
        refine kx_go 1 (pc' := 34) (lv' := [.ref 88, .int x1, .int x2, .int x3, .int x4, .int x5, .null]) (st' := [.int x3, .ref 103]) hX ok_Model_move rfl ?_
        refine kx_iald hX ok_Model_move (w := 4) (nx := 35) rfl (fun b8 => ?_)
        refine kx_go 1 (pc' := if (I 103 x3.toNatClampNeg) = (0 : Int32) then 38 else 44) (lv' := [.ref 88, .int x1, .int x2, .int x3, .int x4, .int x5, .null]) (st' := []) hX ok_Model_move rfl ?_
        refine kx_ite (fun c9 => ?_) (fun c9 => ?_)
        · refine kx_go 2 (pc' := 40) (lv' := [.ref 88, .int x1, .int x2, .int x3, .int x4, .int x5, .null]) (st' := [.int (2 : Int32), .ref 88]) hX ok_Model_move rfl ?_
          refine kx_bind (fun p10 hp10 => ?_)
          refine kx_V (r := 88) (as := [.int (2 : Int32)]) (by decide) hX ok_Model_move (nx := 43) rfl l_Model_129 (by decide) rfl (fun _ => s_Model_finds (G := G) (d := 0) (Nat.le_refl _) C I (2 : Int32) p10 hp10) (by omega) rfl (rest := []) rfl (Nat.le_of_ble_eq_true rfl) ⟨Nat.le_of_ble_eq_true rfl, Nat.le_of_ble_eq_true rfl⟩ ?_
          show _ → kW G X m_Model_move C p10.2 0 0 43 [.ref 88, .int x1, .int x2, .int x3, .int x4, .int x5, .null] [.int p10.1]
          intro h; have h := Option.some.inj h; subst h
          exact kx_iret hX hE ok_Model_move (nx := 44) rfl rfl ⟨Nat.le_of_ble_eq_true rfl, Nat.le_of_ble_eq_true rfl⟩
        · refine kx_go 1 (pc' := 45) (lv' := [.ref 88, .int x1, .int x2, .int x3, .int x4, .int x5, .null]) (st' := [.ref 88]) hX ok_Model_move rfl ?_
          refine kx_getp hX ok_Model_move rfl (q := 103) (nx := 48) rfl ?_
          refine kx_go 1 (pc' := 49) (lv' := [.ref 88, .int x1, .int x2, .int x3, .int x4, .int x5, .null]) (st' := [.int x1, .ref 103]) hX ok_Model_move rfl ?_
          refine kx_ialdc hX ok_Model_move (w := 4) (nx := 50) rfl b5 (k := x1.toNatClampNeg) rfl ?_
          refine kx_go 1 (pc' := 51) (lv' := [.ref 88, .int x1, .int x2, .int x3, .int x4, .int x5, .null]) (st' := [.ref 88, .int (I 103 x1.toNatClampNeg)]) hX ok_Model_move rfl ?_
          refine kx_getp hX ok_Model_move rfl (q := 103) (nx := 54) rfl ?_
          refine kx_go 1 (pc' := 55) (lv' := [.ref 88, .int x1, .int x2, .int x3, .int x4, .int x5, .null]) (st' := [.int x3, .ref 103, .int (I 103 x1.toNatClampNeg)]) hX ok_Model_move rfl ?_
          refine kx_ialdc hX ok_Model_move (w := 4) (nx := 56) rfl b8 (k := x3.toNatClampNeg) rfl ?_
          refine kx_go 1 (pc' := if (I 103 x1.toNatClampNeg) = (I 103 x3.toNatClampNeg) then 65 else 59) (lv' := [.ref 88, .int x1, .int x2, .int x3, .int x4, .int x5, .null]) (st' := []) hX ok_Model_move rfl ?_
          refine kx_ite (fun c11 => ?_) (fun c11 => ?_)
          · refine kx_go 2 (pc' := if x5 < (0 : Int32) then 106 else 70) (lv' := [.ref 88, .int x1, .int x2, .int x3, .int x4, .int x5, .null]) (st' := []) hX ok_Model_move rfl ?_
            refine kx_ite (fun c12 => ?_) (fun c12 => ?_)
            · refine kx_go 2 (pc' := 108) (lv' := [.ref 88, .int x1, .int x2, .int x3, .int x4, .int x5, .null]) (st' := [.int (1 : Int32), .ref 88]) hX ok_Model_move rfl ?_
              refine kx_bind (fun p13 hp13 => ?_)
              refine kx_V (r := 88) (as := [.int (1 : Int32)]) (by decide) hX ok_Model_move (nx := 111) rfl l_Model_129 (by decide) rfl (fun _ => s_Model_finds (G := G) (d := 0) (Nat.le_refl _) C I (1 : Int32) p13 hp13) (by omega) rfl (rest := []) rfl (Nat.le_of_ble_eq_true rfl) ⟨Nat.le_of_ble_eq_true rfl, Nat.le_of_ble_eq_true rfl⟩ ?_
              show _ → kW G X m_Model_move C p13.2 0 0 111 [.ref 88, .int x1, .int x2, .int x3, .int x4, .int x5, .null] [.int p13.1]
              intro h; have h := Option.some.inj h; subst h
              exact kx_iret hX hE ok_Model_move (nx := 112) rfl rfl ⟨Nat.le_of_ble_eq_true rfl, Nat.le_of_ble_eq_true rfl⟩
            · refine kx_go 2 (pc' := if x2 < (0 : Int32) then 106 else 74) (lv' := [.ref 88, .int x1, .int x2, .int x3, .int x4, .int x5, .null]) (st' := []) hX ok_Model_move rfl ?_
              refine kx_ite (fun c14 => ?_) (fun c14 => ?_)
              · refine kx_go 2 (pc' := 108) (lv' := [.ref 88, .int x1, .int x2, .int x3, .int x4, .int x5, .null]) (st' := [.int (1 : Int32), .ref 88]) hX ok_Model_move rfl ?_
                refine kx_bind (fun p15 hp15 => ?_)
                refine kx_V (r := 88) (as := [.int (1 : Int32)]) (by decide) hX ok_Model_move (nx := 111) rfl l_Model_129 (by decide) rfl (fun _ => s_Model_finds (G := G) (d := 0) (Nat.le_refl _) C I (1 : Int32) p15 hp15) (by omega) rfl (rest := []) rfl (Nat.le_of_ble_eq_true rfl) ⟨Nat.le_of_ble_eq_true rfl, Nat.le_of_ble_eq_true rfl⟩ ?_
                show _ → kW G X m_Model_move C p15.2 0 0 111 [.ref 88, .int x1, .int x2, .int x3, .int x4, .int x5, .null] [.int p15.1]
                intro h; have h := Option.some.inj h; subst h
                exact kx_iret hX hE ok_Model_move (nx := 112) rfl rfl ⟨Nat.le_of_ble_eq_true rfl, Nat.le_of_ble_eq_true rfl⟩
              · refine kx_go 2 (pc' := if x4 < (0 : Int32) then 106 else 79) (lv' := [.ref 88, .int x1, .int x2, .int x3, .int x4, .int x5, .null]) (st' := []) hX ok_Model_move rfl ?_
                refine kx_ite (fun c16 => ?_) (fun c16 => ?_)
                · refine kx_go 2 (pc' := 108) (lv' := [.ref 88, .int x1, .int x2, .int x3, .int x4, .int x5, .null]) (st' := [.int (1 : Int32), .ref 88]) hX ok_Model_move rfl ?_
                  refine kx_bind (fun p17 hp17 => ?_)
                  refine kx_V (r := 88) (as := [.int (1 : Int32)]) (by decide) hX ok_Model_move (nx := 111) rfl l_Model_129 (by decide) rfl (fun _ => s_Model_finds (G := G) (d := 0) (Nat.le_refl _) C I (1 : Int32) p17 hp17) (by omega) rfl (rest := []) rfl (Nat.le_of_ble_eq_true rfl) ⟨Nat.le_of_ble_eq_true rfl, Nat.le_of_ble_eq_true rfl⟩ ?_
                  show _ → kW G X m_Model_move C p17.2 0 0 111 [.ref 88, .int x1, .int x2, .int x3, .int x4, .int x5, .null] [.int p17.1]
                  intro h; have h := Option.some.inj h; subst h
                  exact kx_iret hX hE ok_Model_move (nx := 112) rfl rfl ⟨Nat.le_of_ble_eq_true rfl, Nat.le_of_ble_eq_true rfl⟩
                · refine kx_go 2 (pc' := 82) (lv' := [.ref 88, .int x1, .int x2, .int x3, .int x4, .int x5, .null]) (st' := [.ref 88, .int x5]) hX ok_Model_move rfl ?_
                  refine kx_getp hX ok_Model_move rfl (q := 104) (nx := 85) rfl ?_
                  refine kx_go 1 (pc' := 86) (lv' := [.ref 88, .int x1, .int x2, .int x3, .int x4, .int x5, .null]) (st' := [.int x1, .ref 104, .int x5]) hX ok_Model_move rfl ?_
                  refine kx_ialdc hX ok_Model_move (w := 4) (nx := 87) rfl b5 (k := x1.toNatClampNeg) rfl ?_
                  refine kx_go 3 (pc' := if ((I 104 x1.toNatClampNeg) - x2) < x5 then 106 else 92) (lv' := [.ref 88, .int x1, .int x2, .int x3, .int x4, .int x5, .null]) (st' := []) hX ok_Model_move rfl ?_
                  refine kx_ite (fun c18 => ?_) (fun c18 => ?_)
                  · refine kx_go 2 (pc' := 108) (lv' := [.ref 88, .int x1, .int x2, .int x3, .int x4, .int x5, .null]) (st' := [.int (1 : Int32), .ref 88]) hX ok_Model_move rfl ?_
                    refine kx_bind (fun p19 hp19 => ?_)
                    refine kx_V (r := 88) (as := [.int (1 : Int32)]) (by decide) hX ok_Model_move (nx := 111) rfl l_Model_129 (by decide) rfl (fun _ => s_Model_finds (G := G) (d := 0) (Nat.le_refl _) C I (1 : Int32) p19 hp19) (by omega) rfl (rest := []) rfl (Nat.le_of_ble_eq_true rfl) ⟨Nat.le_of_ble_eq_true rfl, Nat.le_of_ble_eq_true rfl⟩ ?_
                    show _ → kW G X m_Model_move C p19.2 0 0 111 [.ref 88, .int x1, .int x2, .int x3, .int x4, .int x5, .null] [.int p19.1]
                    intro h; have h := Option.some.inj h; subst h
                    exact kx_iret hX hE ok_Model_move (nx := 112) rfl rfl ⟨Nat.le_of_ble_eq_true rfl, Nat.le_of_ble_eq_true rfl⟩
                  · refine kx_go 2 (pc' := 95) (lv' := [.ref 88, .int x1, .int x2, .int x3, .int x4, .int x5, .null]) (st' := [.ref 88, .int x5]) hX ok_Model_move rfl ?_
                    refine kx_getp hX ok_Model_move rfl (q := 104) (nx := 98) rfl ?_
                    refine kx_go 1 (pc' := 99) (lv' := [.ref 88, .int x1, .int x2, .int x3, .int x4, .int x5, .null]) (st' := [.int x3, .ref 104, .int x5]) hX ok_Model_move rfl ?_
                    refine kx_ialdc hX ok_Model_move (w := 4) (nx := 100) rfl b8 (k := x3.toNatClampNeg) rfl ?_
                    refine kx_go 3 (pc' := if x5 ≤ ((I 104 x3.toNatClampNeg) - x4) then 112 else 106) (lv' := [.ref 88, .int x1, .int x2, .int x3, .int x4, .int x5, .null]) (st' := []) hX ok_Model_move rfl ?_
                    refine kx_ite (fun c20 => ?_) (fun c20 => ?_)
                    · refine kx_go 2 (pc' := 115) (lv' := [.ref 88, .int x1, .int x2, .int x3, .int x4, .int x5, .int (0 : Int32)]) (st' := []) hX ok_Model_move rfl ?_
                      refine kx_bind (fun p21 hp21 => ?_)
                      refine kx_via (fun hk => s_L_Model_move_115 (G := G) (X := X) (by omega) hX C x1 x2 x3 x4 x5 1000 (0 : Int32) I p21 hk hp21) ?_
                      refine kx_go 2 (pc' := 152) (lv' := [.ref 88, .null, .null, .int x3, .int x4, .int x5, .int (0 : Int32)]) (st' := []) hX ok_Model_move rfl ?_
                      refine kx_bind (fun p22 hp22 => ?_)
                      refine kx_via (fun hk => s_L_Model_move_152 (G := G) (X := X) (by omega) hX C x3 x4 x5 1000 (0 : Int32) p21 p22 hk hp22) ?_
                      refine kx_go 1 (pc' := 189) (lv' := [.null, .null, .null, .null, .null, .int x5, .null]) (st' := [.int x5]) hX ok_Model_move rfl ?_
                      intro h; have h := Option.some.inj h; subst h
                      exact kx_iret hX hE ok_Model_move (nx := 190) rfl rfl ⟨Nat.le_of_ble_eq_true rfl, Nat.le_of_ble_eq_true rfl⟩
                    · refine kx_go 2 (pc' := 108) (lv' := [.ref 88, .int x1, .int x2, .int x3, .int x4, .int x5, .null]) (st' := [.int (1 : Int32), .ref 88]) hX ok_Model_move rfl ?_
                      refine kx_bind (fun p23 hp23 => ?_)
                      refine kx_V (r := 88) (as := [.int (1 : Int32)]) (by decide) hX ok_Model_move (nx := 111) rfl l_Model_129 (by decide) rfl (fun _ => s_Model_finds (G := G) (d := 0) (Nat.le_refl _) C I (1 : Int32) p23 hp23) (by omega) rfl (rest := []) rfl (Nat.le_of_ble_eq_true rfl) ⟨Nat.le_of_ble_eq_true rfl, Nat.le_of_ble_eq_true rfl⟩ ?_
                      show _ → kW G X m_Model_move C p23.2 0 0 111 [.ref 88, .int x1, .int x2, .int x3, .int x4, .int x5, .null] [.int p23.1]
                      intro h; have h := Option.some.inj h; subst h
                      exact kx_iret hX hE ok_Model_move (nx := 112) rfl rfl ⟨Nat.le_of_ble_eq_true rfl, Nat.le_of_ble_eq_true rfl⟩
          · refine kx_go 2 (pc' := 61) (lv' := [.ref 88, .int x1, .int x2, .int x3, .int x4, .int x5, .null]) (st' := [.int (5 : Int32), .ref 88]) hX ok_Model_move rfl ?_
            refine kx_bind (fun p24 hp24 => ?_)
            refine kx_V (r := 88) (as := [.int (5 : Int32)]) (by decide) hX ok_Model_move (nx := 64) rfl l_Model_129 (by decide) rfl (fun _ => s_Model_finds (G := G) (d := 0) (Nat.le_refl _) C I (5 : Int32) p24 hp24) (by omega) rfl (rest := []) rfl (Nat.le_of_ble_eq_true rfl) ⟨Nat.le_of_ble_eq_true rfl, Nat.le_of_ble_eq_true rfl⟩ ?_
            show _ → kW G X m_Model_move C p24.2 0 0 64 [.ref 88, .int x1, .int x2, .int x3, .int x4, .int x5, .null] [.int p24.1]
            intro h; have h := Option.some.inj h; subst h
            exact kx_iret hX hE ok_Model_move (nx := 65) rfl rfl ⟨Nat.le_of_ble_eq_true rfl, Nat.le_of_ble_eq_true rfl⟩
def M_Model_whyNot (I : HI) (x1 : Int32) : Option (Int32) := if (M_Model_isSheet x1) = (0 : Int32) then (some (1 : Int32)) else (grd (bnd x1 4) (if (I 103 x1.toNatClampNeg) = (0 : Int32) then (some (2 : Int32)) else (some (0 : Int32))))
theorem s_Model_whyNot {G : xG} {d : Nat} (hd : 2 ≤ d) (C : HC) (I : HI) (x1 : Int32)  (r : Int32) : M_Model_whyNot I x1 = some r → kM G d m_Model_whyNot [.ref 88, .int x1] C I 0 0 (some (.int r)) C I := by
  unfold M_Model_whyNot
  refine kM.of (by decide +kernel) (Nat.le_of_ble_eq_true rfl) (lv := [.ref 88, .int x1]) rfl (fun X hX hE => ?_)
  refine kx_go 1 (pc' := 1) (lv' := [.ref 88, .int x1]) (st' := [.int x1]) hX ok_Model_whyNot rfl ?_
  refine kx_S (as := [.int x1]) hX ok_Model_whyNot (nx := 4) rfl l_Model_300 (fun _ => s_Model_isSheet (G := G) (d := 1) (Nat.le_refl _) C I x1 _ rfl) (by omega) rfl (rest := []) rfl (Nat.le_of_ble_eq_true rfl) ⟨Nat.le_of_ble_eq_true rfl, Nat.le_of_ble_eq_true rfl⟩ ?_
  show _ → kW G X m_Model_whyNot C I 0 0 4 [.ref 88, .int x1] [.int (M_Model_isSheet x1)]
  refine kx_go 1 (pc' := if (M_Model_isSheet x1) = (0 : Int32) then 7 else 11) (lv' := [.ref 88, .int x1]) (st' := []) hX ok_Model_whyNot rfl ?_
  refine kx_ite (fun c1 => ?_) (fun c1 => ?_)
  · refine kx_go 2 (pc' := 25) (lv' := [.ref 88, .int x1]) (st' := [.int (1 : Int32)]) hX ok_Model_whyNot rfl ?_
    intro h; have h := Option.some.inj h; subst h
    exact kx_iret hX hE ok_Model_whyNot (nx := 26) rfl rfl ⟨Nat.le_of_ble_eq_true rfl, Nat.le_of_ble_eq_true rfl⟩
  · refine kx_go 1 (pc' := 12) (lv' := [.ref 88, .int x1]) (st' := [.ref 88]) hX ok_Model_whyNot rfl ?_
    refine kx_getp hX ok_Model_whyNot rfl (q := 103) (nx := 15) rfl ?_
    refine kx_go 1 (pc' := 16) (lv' := [.ref 88, .int x1]) (st' := [.int x1, .ref 103]) hX ok_Model_whyNot rfl ?_
    refine kx_iald hX ok_Model_whyNot (w := 4) (nx := 17) rfl (fun b2 => ?_)
    refine kx_go 1 (pc' := if (I 103 x1.toNatClampNeg) = (0 : Int32) then 20 else 24) (lv' := [.ref 88, .int x1]) (st' := []) hX ok_Model_whyNot rfl ?_
    refine kx_ite (fun c3 => ?_) (fun c3 => ?_)
    · refine kx_go 2 (pc' := 25) (lv' := [.ref 88, .int x1]) (st' := [.int (2 : Int32)]) hX ok_Model_whyNot rfl ?_
      intro h; have h := Option.some.inj h; subst h
      exact kx_iret hX hE ok_Model_whyNot (nx := 26) rfl rfl ⟨Nat.le_of_ble_eq_true rfl, Nat.le_of_ble_eq_true rfl⟩
    · refine kx_go 1 (pc' := 25) (lv' := [.ref 88, .int x1]) (st' := [.int (0 : Int32)]) hX ok_Model_whyNot rfl ?_
      intro h; have h := Option.some.inj h; subst h
      exact kx_iret hX hE ok_Model_whyNot (nx := 26) rfl rfl ⟨Nat.le_of_ble_eq_true rfl, Nat.le_of_ble_eq_true rfl⟩
def L_Model_looks_24 (x1 : Int32) : Nat → Int32 → Int32 → HI → Option (Int32 × HI)
  | 0, _, _, _ => none
  | f + 1, x3, x4, I => grd (bnd x1 4) (if (I 104 x1.toNatClampNeg) < (((3 : Int32) * x3) + (3 : Int32)) then (some (x3, I)) else (if (12 : Int32) ≤ (I 89 1) then (some (x3, I)) else (grd (bnd x4 160) (grd (bnd (x4 + (1 : Int32)) 160) (grd (bnd (x4 + (2 : Int32)) 160) (if (M_Model_isTold I (I 105 x4.toNatClampNeg) (I 105 (x4 + (1 : Int32)).toNatClampNeg) (I 105 (x4 + (2 : Int32)).toNatClampNeg)) = (0 : Int32) then (some (x3, I)) else (Option.bind (M_Model_lookComes I (I 105 x4.toNatClampNeg) (I 105 (x4 + (1 : Int32)).toNatClampNeg) (I 105 (x4 + (2 : Int32)).toNatClampNeg)) fun p8 => L_Model_looks_24 x1 f (x3 + (1 : Int32)) (x4 + (3 : Int32)) p8.2)))))))
theorem s_L_Model_looks_24 {G : xG} {X : xC} {d : Nat} (hd : 3 ≤ d) (hX : xAmb G X m_Model_looks d 0 0)  (C : HC) (x1 : Int32) : ∀ (f : Nat) (x3 : Int32) (x4 : Int32) (I : HI) (r : Int32 × HI), (kW G X m_Model_looks C r.2 0 0 121 [.null, .null, .null, .int r.1, .null, .null] []) → L_Model_looks_24 x1 f x3 x4 I = some r → kW G X m_Model_looks C I 0 0 24 [.ref 88, .int x1, .null, .int x3, .int x4, .null] [] := by
  intro f
  induction f with
  | zero => intro x3 x4 I r hk h; rw [L_Model_looks_24] at h; cases h
  | succ f ih =>
    intro x3 x4 I r hk
    rw [L_Model_looks_24]
    refine kx_go 6 (pc' := 30) (lv' := [.ref 88, .int x1, .null, .int x3, .int x4, .null]) (st' := [.ref 88, .int (((3 : Int32) * x3) + (3 : Int32))]) hX ok_Model_looks rfl ?_
    refine kx_getp hX ok_Model_looks rfl (q := 104) (nx := 33) rfl ?_
    refine kx_go 1 (pc' := 34) (lv' := [.ref 88, .int x1, .null, .int x3, .int x4, .null]) (st' := [.int x1, .ref 104, .int (((3 : Int32) * x3) + (3 : Int32))]) hX ok_Model_looks rfl ?_
    refine kx_iald hX ok_Model_looks (w := 4) (nx := 35) rfl (fun b1 => ?_)
    refine kx_go 1 (pc' := if (I 104 x1.toNatClampNeg) < (((3 : Int32) * x3) + (3 : Int32)) then 121 else 38) (lv' := [.ref 88, .int x1, .null, .int x3, .int x4, .null]) (st' := []) hX ok_Model_looks rfl ?_
    refine kx_ite (fun c2 => ?_) (fun c2 => ?_)
    · refine kx_weak (lv' := [.null, .null, .null, .int x3, .null, .null]) (by simp [xsub]) ?_
      intro h; have h := Option.some.inj h; subst h
      exact hk
    · refine kx_go 1 (pc' := 39) (lv' := [.ref 88, .int x1, .null, .int x3, .int x4, .null]) (st' := [.ref 88]) hX ok_Model_looks rfl ?_
      refine kx_getp hX ok_Model_looks rfl (q := 89) (nx := 42) rfl ?_
      refine kx_go 1 (pc' := 43) (lv' := [.ref 88, .int x1, .null, .int x3, .int x4, .null]) (st' := [.int (1 : Int32), .ref 89]) hX ok_Model_looks rfl ?_
      refine kx_ialdc hX ok_Model_looks (w := 270) (nx := 44) rfl rfl (k := 1) rfl ?_
      refine kx_go 2 (pc' := if (12 : Int32) ≤ (I 89 1) then 121 else 49) (lv' := [.ref 88, .int x1, .null, .int x3, .int x4, .null]) (st' := []) hX ok_Model_looks rfl ?_
      refine kx_ite (fun c3 => ?_) (fun c3 => ?_)
      · refine kx_weak (lv' := [.null, .null, .null, .int x3, .null, .null]) (by simp [xsub]) ?_
        intro h; have h := Option.some.inj h; subst h
        exact hk
      · refine kx_go 2 (pc' := 51) (lv' := [.ref 88, .int x1, .null, .int x3, .int x4, .null]) (st' := [.ref 88, .ref 88]) hX ok_Model_looks rfl ?_
        refine kx_getp hX ok_Model_looks rfl (q := 105) (nx := 54) rfl ?_
        refine kx_go 1 (pc' := 56) (lv' := [.ref 88, .int x1, .null, .int x3, .int x4, .null]) (st' := [.int x4, .ref 105, .ref 88]) hX ok_Model_looks rfl ?_
        refine kx_iald hX ok_Model_looks (w := 160) (nx := 57) rfl (fun b4 => ?_)
        refine kx_go 1 (pc' := 58) (lv' := [.ref 88, .int x1, .null, .int x3, .int x4, .null]) (st' := [.ref 88, .int (I 105 x4.toNatClampNeg), .ref 88]) hX ok_Model_looks rfl ?_
        refine kx_getp hX ok_Model_looks rfl (q := 105) (nx := 61) rfl ?_
        refine kx_go 3 (pc' := 65) (lv' := [.ref 88, .int x1, .null, .int x3, .int x4, .null]) (st' := [.int (x4 + (1 : Int32)), .ref 105, .int (I 105 x4.toNatClampNeg), .ref 88]) hX ok_Model_looks rfl ?_
        refine kx_iald hX ok_Model_looks (w := 160) (nx := 66) rfl (fun b5 => ?_)
        refine kx_go 1 (pc' := 67) (lv' := [.ref 88, .int x1, .null, .int x3, .int x4, .null]) (st' := [.ref 88, .int (I 105 (x4 + (1 : Int32)).toNatClampNeg), .int (I 105 x4.toNatClampNeg), .ref 88]) hX ok_Model_looks rfl ?_
        refine kx_getp hX ok_Model_looks rfl (q := 105) (nx := 70) rfl ?_
        refine kx_go 3 (pc' := 74) (lv' := [.ref 88, .int x1, .null, .int x3, .int x4, .null]) (st' := [.int (x4 + (2 : Int32)), .ref 105, .int (I 105 (x4 + (1 : Int32)).toNatClampNeg), .int (I 105 x4.toNatClampNeg), .ref 88]) hX ok_Model_looks rfl ?_
        refine kx_iald hX ok_Model_looks (w := 160) (nx := 75) rfl (fun b6 => ?_)
        refine kx_V (r := 88) (as := [.int (I 105 x4.toNatClampNeg), .int (I 105 (x4 + (1 : Int32)).toNatClampNeg), .int (I 105 (x4 + (2 : Int32)).toNatClampNeg)]) (by decide) hX ok_Model_looks (nx := 78) rfl l_Model_187 (by decide) rfl (fun _ => s_Model_isTold (G := G) (d := 2) (Nat.le_refl _) C I (I 105 x4.toNatClampNeg) (I 105 (x4 + (1 : Int32)).toNatClampNeg) (I 105 (x4 + (2 : Int32)).toNatClampNeg) _ rfl) (by omega) rfl (rest := []) rfl (Nat.le_of_ble_eq_true rfl) ⟨Nat.le_of_ble_eq_true rfl, Nat.le_of_ble_eq_true rfl⟩ ?_
        show _ → kW G X m_Model_looks C I 0 0 78 [.ref 88, .int x1, .null, .int x3, .int x4, .null] [.int (M_Model_isTold I (I 105 x4.toNatClampNeg) (I 105 (x4 + (1 : Int32)).toNatClampNeg) (I 105 (x4 + (2 : Int32)).toNatClampNeg))]
        refine kx_go 1 (pc' := if (M_Model_isTold I (I 105 x4.toNatClampNeg) (I 105 (x4 + (1 : Int32)).toNatClampNeg) (I 105 (x4 + (2 : Int32)).toNatClampNeg)) = (0 : Int32) then 121 else 81) (lv' := [.ref 88, .int x1, .null, .int x3, .int x4, .null]) (st' := []) hX ok_Model_looks rfl ?_
        refine kx_ite (fun c7 => ?_) (fun c7 => ?_)
        · refine kx_weak (lv' := [.null, .null, .null, .int x3, .null, .null]) (by simp [xsub]) ?_
          intro h; have h := Option.some.inj h; subst h
          exact hk
        · refine kx_go 2 (pc' := 83) (lv' := [.ref 88, .int x1, .null, .int x3, .int x4, .null]) (st' := [.ref 88, .ref 88]) hX ok_Model_looks rfl ?_
          refine kx_getp hX ok_Model_looks rfl (q := 105) (nx := 86) rfl ?_
          refine kx_go 1 (pc' := 88) (lv' := [.ref 88, .int x1, .null, .int x3, .int x4, .null]) (st' := [.int x4, .ref 105, .ref 88]) hX ok_Model_looks rfl ?_
          refine kx_ialdc hX ok_Model_looks (w := 160) (nx := 89) rfl b4 (k := x4.toNatClampNeg) rfl ?_
          refine kx_go 1 (pc' := 90) (lv' := [.ref 88, .int x1, .null, .int x3, .int x4, .null]) (st' := [.ref 88, .int (I 105 x4.toNatClampNeg), .ref 88]) hX ok_Model_looks rfl ?_
          refine kx_getp hX ok_Model_looks rfl (q := 105) (nx := 93) rfl ?_
          refine kx_go 3 (pc' := 97) (lv' := [.ref 88, .int x1, .null, .int x3, .int x4, .null]) (st' := [.int (x4 + (1 : Int32)), .ref 105, .int (I 105 x4.toNatClampNeg), .ref 88]) hX ok_Model_looks rfl ?_
          refine kx_ialdc hX ok_Model_looks (w := 160) (nx := 98) rfl b5 (k := (x4 + (1 : Int32)).toNatClampNeg) rfl ?_
          refine kx_go 1 (pc' := 99) (lv' := [.ref 88, .int x1, .null, .int x3, .int x4, .null]) (st' := [.ref 88, .int (I 105 (x4 + (1 : Int32)).toNatClampNeg), .int (I 105 x4.toNatClampNeg), .ref 88]) hX ok_Model_looks rfl ?_
          refine kx_getp hX ok_Model_looks rfl (q := 105) (nx := 102) rfl ?_
          refine kx_go 3 (pc' := 106) (lv' := [.ref 88, .int x1, .null, .int x3, .int x4, .null]) (st' := [.int (x4 + (2 : Int32)), .ref 105, .int (I 105 (x4 + (1 : Int32)).toNatClampNeg), .int (I 105 x4.toNatClampNeg), .ref 88]) hX ok_Model_looks rfl ?_
          refine kx_ialdc hX ok_Model_looks (w := 160) (nx := 107) rfl b6 (k := (x4 + (2 : Int32)).toNatClampNeg) rfl ?_
          refine kx_bind (fun p8 hp8 => ?_)
          refine kx_V (r := 88) (as := [.int (I 105 x4.toNatClampNeg), .int (I 105 (x4 + (1 : Int32)).toNatClampNeg), .int (I 105 (x4 + (2 : Int32)).toNatClampNeg)]) (by decide) hX ok_Model_looks (nx := 110) rfl l_Model_191 (by decide) rfl (fun _ => s_Model_lookComes (G := G) (d := 0) (Nat.le_refl _) C I (I 105 x4.toNatClampNeg) (I 105 (x4 + (1 : Int32)).toNatClampNeg) (I 105 (x4 + (2 : Int32)).toNatClampNeg) p8 hp8) (by omega) rfl (rest := []) rfl (Nat.le_of_ble_eq_true rfl) ⟨Nat.le_of_ble_eq_true rfl, Nat.le_of_ble_eq_true rfl⟩ ?_
          show _ → kW G X m_Model_looks C p8.2 0 0 110 [.ref 88, .int x1, .null, .int x3, .int x4, .null] [.int p8.1]
          refine kx_go 4 (pc' := 24) (lv' := [.ref 88, .int x1, .null, .int (x3 + (1 : Int32)), .int (x4 + (3 : Int32)), .int p8.1]) (st' := []) hX ok_Model_looks rfl ?_
          refine kx_weak (lv' := [.ref 88, .int x1, .null, .int (x3 + (1 : Int32)), .int (x4 + (3 : Int32)), .null]) (by simp [xsub]) ?_
          exact fun h => ih (x3 + (1 : Int32)) (x4 + (3 : Int32)) p8.2 r hk h
def M_Model_looks (I : HI) (x1 : Int32) : Option (Int32 × HI) := Option.bind (M_Model_whyNot I x1) fun p1 => if p1 = (0 : Int32) then (Option.bind (L_Model_looks_24 x1 1000 (0 : Int32) ((40 : Int32) * x1) I) fun p3 => some (p3.1, p3.2)) else (Option.bind (M_Model_finds I p1) fun p4 => some (p4.1, p4.2))
theorem s_Model_looks {G : xG} {d : Nat} (hd : 3 ≤ d) (C : HC) (I : HI) (x1 : Int32)  (r : Int32 × HI) : M_Model_looks I x1 = some r → kM G d m_Model_looks [.ref 88, .int x1] C I 0 0 (some (.int r.1)) C r.2 := by
  unfold M_Model_looks
  refine kM.of (by decide +kernel) (Nat.le_of_ble_eq_true rfl) (lv := [.ref 88, .int x1, .null, .null, .null, .null]) rfl (fun X hX hE => ?_)
  refine kx_go 2 (pc' := 2) (lv' := [.ref 88, .int x1, .null, .null, .null, .null]) (st' := [.int x1, .ref 88]) hX ok_Model_looks rfl ?_
  refine kx_bind (fun p1 hp1 => ?_)
  refine kx_V (r := 88) (as := [.int x1]) (by decide) hX ok_Model_looks (nx := 5) rfl l_Model_303 (by decide) rfl (fun _ => s_Model_whyNot (G := G) (d := 2) (Nat.le_refl _) C I x1 p1 hp1) (by omega) rfl (rest := []) rfl (Nat.le_of_ble_eq_true rfl) ⟨Nat.le_of_ble_eq_true rfl, Nat.le_of_ble_eq_true rfl⟩ ?_
  show _ → kW G X m_Model_looks C I 0 0 5 [.ref 88, .int x1, .null, .null, .null, .null] [.int p1]
  refine kx_go 3 (pc' := if p1 = (0 : Int32) then 16 else 10) (lv' := [.ref 88, .int x1, .int p1, .null, .null, .null]) (st' := []) hX ok_Model_looks rfl ?_
  refine kx_ite (fun c2 => ?_) (fun c2 => ?_)
  · refine kx_go 6 (pc' := 24) (lv' := [.ref 88, .int x1, .int p1, .int (0 : Int32), .int ((40 : Int32) * x1), .null]) (st' := []) hX ok_Model_looks rfl ?_
    refine kx_weak (lv' := [.ref 88, .int x1, .null, .int (0 : Int32), .int ((40 : Int32) * x1), .null]) (by simp [xsub]) ?_
    refine kx_bind (fun p3 hp3 => ?_)
    refine kx_via (fun hk => s_L_Model_looks_24 (G := G) (X := X) (by omega) hX C x1 1000 (0 : Int32) ((40 : Int32) * x1) I p3 hk hp3) ?_
    refine kx_go 1 (pc' := 122) (lv' := [.null, .null, .null, .int p3.1, .null, .null]) (st' := [.int p3.1]) hX ok_Model_looks rfl ?_
    intro h; have h := Option.some.inj h; subst h
    exact kx_iret hX hE ok_Model_looks (nx := 123) rfl rfl ⟨Nat.le_of_ble_eq_true rfl, Nat.le_of_ble_eq_true rfl⟩
  · refine kx_go 2 (pc' := 12) (lv' := [.ref 88, .int x1, .int p1, .null, .null, .null]) (st' := [.int p1, .ref 88]) hX ok_Model_looks rfl ?_
    refine kx_bind (fun p4 hp4 => ?_)
    refine kx_V (r := 88) (as := [.int p1]) (by decide) hX ok_Model_looks (nx := 15) rfl l_Model_129 (by decide) rfl (fun _ => s_Model_finds (G := G) (d := 0) (Nat.le_refl _) C I p1 p4 hp4) (by omega) rfl (rest := []) rfl (Nat.le_of_ble_eq_true rfl) ⟨Nat.le_of_ble_eq_true rfl, Nat.le_of_ble_eq_true rfl⟩ ?_
    show _ → kW G X m_Model_looks C p4.2 0 0 15 [.ref 88, .int x1, .int p1, .null, .null, .null] [.int p4.1]
    intro h; have h := Option.some.inj h; subst h
    exact kx_iret hX hE ok_Model_looks (nx := 16) rfl rfl ⟨Nat.le_of_ble_eq_true rfl, Nat.le_of_ble_eq_true rfl⟩
def L_Model_isRight_37 (x2 : Int32) (x3 : Int32) (I : HI) : Nat → Int32 → Option (Nat)
  | 0, _ => none
  | f + 1, x4 => if (I 89 1) ≤ x4 then (some 1) else (Option.bind (M_Model_upper I x4) fun p2 => if x2 < p2 then (L_Model_isRight_37 x2 x3 I f (x4 + (1 : Int32))) else (Option.bind (M_Model_lower I x4) fun p4 => if x2 < p4 then (L_Model_isRight_37 x2 x3 I f (x4 + (1 : Int32))) else (Option.bind (M_Model_upper I x4) fun p6 => grd (bnd (x3 + p6) 160) (Option.bind (M_Model_lower I x4) fun p8 => grd (bnd (x3 + p8) 160) (if (I 105 (x3 + p8).toNatClampNeg) < (I 105 (x3 + p6).toNatClampNeg) then (L_Model_isRight_37 x2 x3 I f (x4 + (1 : Int32))) else (some 0))))))
theorem s_L_Model_isRight_37 {G : xG} {X : xC} {d : Nat} (hd : 52 ≤ d) (hX : xAmb G X m_Model_isRight d 0 0)  (C : HC) (x2 : Int32) (x3 : Int32) (I : HI) : ∀ (f : Nat) (x4 : Int32) (r : Nat), (r = 0 → kW G X m_Model_isRight C I 0 0 97 [.null, .null, .null, .null, .null] []) → (¬ r = 0 → kW G X m_Model_isRight C I 0 0 105 [.null, .null, .null, .null, .null] []) → L_Model_isRight_37 x2 x3 I f x4 = some r → kW G X m_Model_isRight C I 0 0 37 [.ref 88, .null, .int x2, .int x3, .int x4] [] := by
  intro f
  induction f with
  | zero => intro x4 r hk0 hk1 h; rw [L_Model_isRight_37] at h; cases h
  | succ f ih =>
    intro x4 r hk0 hk1
    rw [L_Model_isRight_37]
    refine kx_go 2 (pc' := 40) (lv' := [.ref 88, .null, .int x2, .int x3, .int x4]) (st' := [.ref 88, .int x4]) hX ok_Model_isRight rfl ?_
    refine kx_getp hX ok_Model_isRight rfl (q := 89) (nx := 43) rfl ?_
    refine kx_go 1 (pc' := 44) (lv' := [.ref 88, .null, .int x2, .int x3, .int x4]) (st' := [.int (1 : Int32), .ref 89, .int x4]) hX ok_Model_isRight rfl ?_
    refine kx_ialdc hX ok_Model_isRight (w := 270) (nx := 45) rfl rfl (k := 1) rfl ?_
    refine kx_go 1 (pc' := if (I 89 1) ≤ x4 then 105 else 48) (lv' := [.ref 88, .null, .int x2, .int x3, .int x4]) (st' := []) hX ok_Model_isRight rfl ?_
    refine kx_ite (fun c1 => ?_) (fun c1 => ?_)
    · refine kx_weak (lv' := [.null, .null, .null, .null, .null]) (by simp [xsub]) ?_
      intro h; have h := Option.some.inj h; subst h
      exact hk1 (show ¬ (1 : Nat) = 0 by decide)
    · refine kx_go 2 (pc' := 51) (lv' := [.ref 88, .null, .int x2, .int x3, .int x4]) (st' := [.int x4, .ref 88]) hX ok_Model_isRight rfl ?_
      refine kx_bind (fun p2 hp2 => ?_)
      refine kx_V (r := 88) (as := [.int x4]) (by decide) hX ok_Model_isRight (nx := 54) rfl l_Model_194 (by decide) rfl (fun _ => s_Model_upper (G := G) (d := 0) (Nat.le_refl _) C I x4 p2 hp2) (by omega) rfl (rest := []) rfl (Nat.le_of_ble_eq_true rfl) ⟨Nat.le_of_ble_eq_true rfl, Nat.le_of_ble_eq_true rfl⟩ ?_
      show _ → kW G X m_Model_isRight C I 0 0 54 [.ref 88, .null, .int x2, .int x3, .int x4] [.int p2]
      refine kx_go 2 (pc' := if x2 < p2 then 99 else 58) (lv' := [.ref 88, .null, .int x2, .int x3, .int x4]) (st' := []) hX ok_Model_isRight rfl ?_
      refine kx_ite (fun c3 => ?_) (fun c3 => ?_)
      · refine kx_go 2 (pc' := 37) (lv' := [.ref 88, .null, .int x2, .int x3, .int (x4 + (1 : Int32))]) (st' := []) hX ok_Model_isRight rfl ?_
        exact fun h => ih (x4 + (1 : Int32)) r hk0 hk1 h
      · refine kx_go 2 (pc' := 61) (lv' := [.ref 88, .null, .int x2, .int x3, .int x4]) (st' := [.int x4, .ref 88]) hX ok_Model_isRight rfl ?_
        refine kx_bind (fun p4 hp4 => ?_)
        refine kx_V (r := 88) (as := [.int x4]) (by decide) hX ok_Model_isRight (nx := 64) rfl l_Model_205 (by decide) rfl (fun _ => s_Model_lower (G := G) (d := 0) (Nat.le_refl _) C I x4 p4 hp4) (by omega) rfl (rest := []) rfl (Nat.le_of_ble_eq_true rfl) ⟨Nat.le_of_ble_eq_true rfl, Nat.le_of_ble_eq_true rfl⟩ ?_
        show _ → kW G X m_Model_isRight C I 0 0 64 [.ref 88, .null, .int x2, .int x3, .int x4] [.int p4]
        refine kx_go 2 (pc' := if x2 < p4 then 99 else 68) (lv' := [.ref 88, .null, .int x2, .int x3, .int x4]) (st' := []) hX ok_Model_isRight rfl ?_
        refine kx_ite (fun c5 => ?_) (fun c5 => ?_)
        · refine kx_go 2 (pc' := 37) (lv' := [.ref 88, .null, .int x2, .int x3, .int (x4 + (1 : Int32))]) (st' := []) hX ok_Model_isRight rfl ?_
          exact fun h => ih (x4 + (1 : Int32)) r hk0 hk1 h
        · refine kx_go 1 (pc' := 69) (lv' := [.ref 88, .null, .int x2, .int x3, .int x4]) (st' := [.ref 88]) hX ok_Model_isRight rfl ?_
          refine kx_getp hX ok_Model_isRight rfl (q := 105) (nx := 72) rfl ?_
          refine kx_go 3 (pc' := 76) (lv' := [.ref 88, .null, .int x2, .int x3, .int x4]) (st' := [.int x4, .ref 88, .int x3, .ref 105]) hX ok_Model_isRight rfl ?_
          refine kx_bind (fun p6 hp6 => ?_)
          refine kx_V (r := 88) (as := [.int x4]) (by decide) hX ok_Model_isRight (nx := 79) rfl l_Model_194 (by decide) rfl (fun _ => s_Model_upper (G := G) (d := 0) (Nat.le_refl _) C I x4 p6 hp6) (by omega) rfl (rest := [.int x3, .ref 105]) rfl (Nat.le_of_ble_eq_true rfl) ⟨Nat.le_of_ble_eq_true rfl, Nat.le_of_ble_eq_true rfl⟩ ?_
          show _ → kW G X m_Model_isRight C I 0 0 79 [.ref 88, .null, .int x2, .int x3, .int x4] [.int p6, .int x3, .ref 105]
          refine kx_go 1 (pc' := 80) (lv' := [.ref 88, .null, .int x2, .int x3, .int x4]) (st' := [.int (x3 + p6), .ref 105]) hX ok_Model_isRight rfl ?_
          refine kx_iald hX ok_Model_isRight (w := 160) (nx := 81) rfl (fun b7 => ?_)
          refine kx_go 1 (pc' := 82) (lv' := [.ref 88, .null, .int x2, .int x3, .int x4]) (st' := [.ref 88, .int (I 105 (x3 + p6).toNatClampNeg)]) hX ok_Model_isRight rfl ?_
          refine kx_getp hX ok_Model_isRight rfl (q := 105) (nx := 85) rfl ?_
          refine kx_go 3 (pc' := 89) (lv' := [.ref 88, .null, .int x2, .int x3, .int x4]) (st' := [.int x4, .ref 88, .int x3, .ref 105, .int (I 105 (x3 + p6).toNatClampNeg)]) hX ok_Model_isRight rfl ?_
          refine kx_bind (fun p8 hp8 => ?_)
          refine kx_V (r := 88) (as := [.int x4]) (by decide) hX ok_Model_isRight (nx := 92) rfl l_Model_205 (by decide) rfl (fun _ => s_Model_lower (G := G) (d := 0) (Nat.le_refl _) C I x4 p8 hp8) (by omega) rfl (rest := [.int x3, .ref 105, .int (I 105 (x3 + p6).toNatClampNeg)]) rfl (Nat.le_of_ble_eq_true rfl) ⟨Nat.le_of_ble_eq_true rfl, Nat.le_of_ble_eq_true rfl⟩ ?_
          show _ → kW G X m_Model_isRight C I 0 0 92 [.ref 88, .null, .int x2, .int x3, .int x4] [.int p8, .int x3, .ref 105, .int (I 105 (x3 + p6).toNatClampNeg)]
          refine kx_go 1 (pc' := 93) (lv' := [.ref 88, .null, .int x2, .int x3, .int x4]) (st' := [.int (x3 + p8), .ref 105, .int (I 105 (x3 + p6).toNatClampNeg)]) hX ok_Model_isRight rfl ?_
          refine kx_iald hX ok_Model_isRight (w := 160) (nx := 94) rfl (fun b9 => ?_)
          refine kx_go 1 (pc' := if (I 105 (x3 + p8).toNatClampNeg) < (I 105 (x3 + p6).toNatClampNeg) then 99 else 97) (lv' := [.ref 88, .null, .int x2, .int x3, .int x4]) (st' := []) hX ok_Model_isRight rfl ?_
          refine kx_ite (fun c10 => ?_) (fun c10 => ?_)
          · refine kx_go 2 (pc' := 37) (lv' := [.ref 88, .null, .int x2, .int x3, .int (x4 + (1 : Int32))]) (st' := []) hX ok_Model_isRight rfl ?_
            exact fun h => ih (x4 + (1 : Int32)) r hk0 hk1 h
          · refine kx_weak (lv' := [.null, .null, .null, .null, .null]) (by simp [xsub]) ?_
            intro h; have h := Option.some.inj h; subst h
            exact hk0 rfl
def M_Model_isRight (I : HI) (x1 : Int32) (x2 : Int32) : Option (Int32 × HI) := grd (bnd (((40 : Int32) * x1) + x2) 160) (Option.bind (M_Model_earlyOf I x2) fun p2 => Option.bind (M_Model_lateOf p2.2 x2) fun p3 => if (M_Model_in ((I 105 (((40 : Int32) * x1) + x2).toNatClampNeg).toInt64) (p2.1.toInt64) (p3.1.toInt64)) = (0 : Int32) then (some ((0 : Int32), p3.2)) else (Option.bind (L_Model_isRight_37 x2 ((40 : Int32) * x1) p3.2 1000 (0 : Int32)) fun p5 => if p5 = 0 then (some ((0 : Int32), p3.2)) else (some ((1 : Int32), p3.2))))
theorem s_Model_isRight {G : xG} {d : Nat} (hd : 52 ≤ d) (C : HC) (I : HI) (x1 : Int32) (x2 : Int32)  (r : Int32 × HI) : M_Model_isRight I x1 x2 = some r → kM G d m_Model_isRight [.ref 88, .int x1, .int x2] C I 0 0 (some (.int r.1)) C r.2 := by
  unfold M_Model_isRight
  refine kM.of (by decide +kernel) (Nat.le_of_ble_eq_true rfl) (lv := [.ref 88, .int x1, .int x2, .null, .null]) rfl (fun X hX hE => ?_)
  refine kx_go 5 (pc' := 6) (lv' := [.ref 88, .int x1, .int x2, .int ((40 : Int32) * x1), .null]) (st' := [.ref 88]) hX ok_Model_isRight rfl ?_
  refine kx_getp hX ok_Model_isRight rfl (q := 105) (nx := 9) rfl ?_
  refine kx_go 3 (pc' := 12) (lv' := [.ref 88, .int x1, .int x2, .int ((40 : Int32) * x1), .null]) (st' := [.int (((40 : Int32) * x1) + x2), .ref 105]) hX ok_Model_isRight rfl ?_
  refine kx_iald hX ok_Model_isRight (w := 160) (nx := 13) rfl (fun b1 => ?_)
  refine kx_go 3 (pc' := 16) (lv' := [.ref 88, .int x1, .int x2, .int ((40 : Int32) * x1), .null]) (st' := [.int x2, .ref 88, .long ((I 105 (((40 : Int32) * x1) + x2).toNatClampNeg).toInt64)]) hX ok_Model_isRight rfl ?_
  refine kx_bind (fun p2 hp2 => ?_)
  refine kx_V (r := 88) (as := [.int x2]) (by decide) hX ok_Model_isRight (nx := 19) rfl l_Model_170 (by decide) rfl (fun _ => s_Model_earlyOf (G := G) (d := 51) (Nat.le_refl _) C I x2 p2 hp2) (by omega) rfl (rest := [.long ((I 105 (((40 : Int32) * x1) + x2).toNatClampNeg).toInt64)]) rfl (Nat.le_of_ble_eq_true rfl) ⟨Nat.le_of_ble_eq_true rfl, Nat.le_of_ble_eq_true rfl⟩ ?_
  show _ → kW G X m_Model_isRight C p2.2 0 0 19 [.ref 88, .int x1, .int x2, .int ((40 : Int32) * x1), .null] [.int p2.1, .long ((I 105 (((40 : Int32) * x1) + x2).toNatClampNeg).toInt64)]
  refine kx_go 3 (pc' := 22) (lv' := [.ref 88, .int x1, .int x2, .int ((40 : Int32) * x1), .null]) (st' := [.int x2, .ref 88, .long (p2.1.toInt64), .long ((I 105 (((40 : Int32) * x1) + x2).toNatClampNeg).toInt64)]) hX ok_Model_isRight rfl ?_
  refine kx_bind (fun p3 hp3 => ?_)
  refine kx_V (r := 88) (as := [.int x2]) (by decide) hX ok_Model_isRight (nx := 25) rfl l_Model_173 (by decide) rfl (fun _ => s_Model_lateOf (G := G) (d := 51) (Nat.le_refl _) C p2.2 x2 p3 hp3) (by omega) rfl (rest := [.long (p2.1.toInt64), .long ((I 105 (((40 : Int32) * x1) + x2).toNatClampNeg).toInt64)]) rfl (Nat.le_of_ble_eq_true rfl) ⟨Nat.le_of_ble_eq_true rfl, Nat.le_of_ble_eq_true rfl⟩ ?_
  show _ → kW G X m_Model_isRight C p3.2 0 0 25 [.ref 88, .int x1, .int x2, .int ((40 : Int32) * x1), .null] [.int p3.1, .long (p2.1.toInt64), .long ((I 105 (((40 : Int32) * x1) + x2).toNatClampNeg).toInt64)]
  refine kx_go 1 (pc' := 26) (lv' := [.ref 88, .int x1, .int x2, .int ((40 : Int32) * x1), .null]) (st' := [.long (p3.1.toInt64), .long (p2.1.toInt64), .long ((I 105 (((40 : Int32) * x1) + x2).toNatClampNeg).toInt64)]) hX ok_Model_isRight rfl ?_
  refine kx_S (as := [.long ((I 105 (((40 : Int32) * x1) + x2).toNatClampNeg).toInt64), .long (p2.1.toInt64), .long (p3.1.toInt64)]) hX ok_Model_isRight (nx := 29) rfl l_Model_66 (fun _ => s_Model_in (G := G) (d := 0) (Nat.le_refl _) C p3.2 ((I 105 (((40 : Int32) * x1) + x2).toNatClampNeg).toInt64) (p2.1.toInt64) (p3.1.toInt64) _ rfl) (by omega) rfl (rest := []) rfl (Nat.le_of_ble_eq_true rfl) ⟨Nat.le_of_ble_eq_true rfl, Nat.le_of_ble_eq_true rfl⟩ ?_
  show _ → kW G X m_Model_isRight C p3.2 0 0 29 [.ref 88, .int x1, .int x2, .int ((40 : Int32) * x1), .null] [.int (M_Model_in ((I 105 (((40 : Int32) * x1) + x2).toNatClampNeg).toInt64) (p2.1.toInt64) (p3.1.toInt64))]
  refine kx_go 1 (pc' := if (M_Model_in ((I 105 (((40 : Int32) * x1) + x2).toNatClampNeg).toInt64) (p2.1.toInt64) (p3.1.toInt64)) = (0 : Int32) then 32 else 34) (lv' := [.ref 88, .int x1, .int x2, .int ((40 : Int32) * x1), .null]) (st' := []) hX ok_Model_isRight rfl ?_
  refine kx_ite (fun c4 => ?_) (fun c4 => ?_)
  · refine kx_go 1 (pc' := 33) (lv' := [.ref 88, .int x1, .int x2, .int ((40 : Int32) * x1), .null]) (st' := [.int (0 : Int32)]) hX ok_Model_isRight rfl ?_
    intro h; have h := Option.some.inj h; subst h
    exact kx_zret hX hE ok_Model_isRight (nx := 34) rfl rfl (Or.inl rfl) ⟨Nat.le_of_ble_eq_true rfl, Nat.le_of_ble_eq_true rfl⟩
  · refine kx_go 2 (pc' := 37) (lv' := [.ref 88, .int x1, .int x2, .int ((40 : Int32) * x1), .int (0 : Int32)]) (st' := []) hX ok_Model_isRight rfl ?_
    refine kx_weak (lv' := [.ref 88, .null, .int x2, .int ((40 : Int32) * x1), .int (0 : Int32)]) (by simp [xsub]) ?_
    refine kx_bind (fun p5 hp5 => ?_)
    refine kx_via2 (fun hk0 hk1 => s_L_Model_isRight_37 (G := G) (X := X) (by omega) hX C x2 ((40 : Int32) * x1) p3.2 1000 (0 : Int32) p5 hk0 hk1 hp5) (fun _ => ?_) (fun _ => ?_)
    · refine kx_go 1 (pc' := 98) (lv' := [.null, .null, .null, .null, .null]) (st' := [.int (0 : Int32)]) hX ok_Model_isRight rfl ?_
      intro h; have h := Option.some.inj h; subst h
      exact kx_zret hX hE ok_Model_isRight (nx := 99) rfl rfl (Or.inl rfl) ⟨Nat.le_of_ble_eq_true rfl, Nat.le_of_ble_eq_true rfl⟩
    · refine kx_go 1 (pc' := 106) (lv' := [.null, .null, .null, .null, .null]) (st' := [.int (1 : Int32)]) hX ok_Model_isRight rfl ?_
      intro h; have h := Option.some.inj h; subst h
      exact kx_zret hX hE ok_Model_isRight (nx := 107) rfl rfl (Or.inr rfl) ⟨Nat.le_of_ble_eq_true rfl, Nat.le_of_ble_eq_true rfl⟩
def L_Model_judge_18 (x1 : Int32) : Nat → Int32 → HI → Option (Int32 × HI)
  | 0, _, _ => none
  | f + 1, x3, I => if (I 89 0) ≤ x3 then (some (x3, I)) else (grd (bnd x1 4) (if (I 104 x1.toNatClampNeg) ≤ x3 then (some (x3, I)) else (Option.bind (M_Model_isRight I x1 x3) fun p4 => if p4.1 = (0 : Int32) then (some (x3, p4.2)) else (L_Model_judge_18 x1 f (x3 + (1 : Int32)) p4.2))))
theorem s_L_Model_judge_18 {G : xG} {X : xC} {d : Nat} (hd : 53 ≤ d) (hX : xAmb G X m_Model_judge d 0 0)  (C : HC) (x1 : Int32) : ∀ (f : Nat) (x3 : Int32) (I : HI) (r : Int32 × HI), (kW G X m_Model_judge C r.2 0 0 53 [.null, .null, .null, .int r.1] []) → L_Model_judge_18 x1 f x3 I = some r → kW G X m_Model_judge C I 0 0 18 [.ref 88, .int x1, .null, .int x3] [] := by
  intro f
  induction f with
  | zero => intro x3 I r hk h; rw [L_Model_judge_18] at h; cases h
  | succ f ih =>
    intro x3 I r hk
    rw [L_Model_judge_18]
    refine kx_go 2 (pc' := 20) (lv' := [.ref 88, .int x1, .null, .int x3]) (st' := [.ref 88, .int x3]) hX ok_Model_judge rfl ?_
    refine kx_getp hX ok_Model_judge rfl (q := 89) (nx := 23) rfl ?_
    refine kx_go 1 (pc' := 24) (lv' := [.ref 88, .int x1, .null, .int x3]) (st' := [.int (0 : Int32), .ref 89, .int x3]) hX ok_Model_judge rfl ?_
    refine kx_ialdc hX ok_Model_judge (w := 270) (nx := 25) rfl rfl (k := 0) rfl ?_
    refine kx_go 1 (pc' := if (I 89 0) ≤ x3 then 53 else 28) (lv' := [.ref 88, .int x1, .null, .int x3]) (st' := []) hX ok_Model_judge rfl ?_
    refine kx_ite (fun c1 => ?_) (fun c1 => ?_)
    · refine kx_weak (lv' := [.null, .null, .null, .int x3]) (by simp [xsub]) ?_
      intro h; have h := Option.some.inj h; subst h
      exact hk
    · refine kx_go 2 (pc' := 30) (lv' := [.ref 88, .int x1, .null, .int x3]) (st' := [.ref 88, .int x3]) hX ok_Model_judge rfl ?_
      refine kx_getp hX ok_Model_judge rfl (q := 104) (nx := 33) rfl ?_
      refine kx_go 1 (pc' := 34) (lv' := [.ref 88, .int x1, .null, .int x3]) (st' := [.int x1, .ref 104, .int x3]) hX ok_Model_judge rfl ?_
      refine kx_iald hX ok_Model_judge (w := 4) (nx := 35) rfl (fun b2 => ?_)
      refine kx_go 1 (pc' := if (I 104 x1.toNatClampNeg) ≤ x3 then 53 else 38) (lv' := [.ref 88, .int x1, .null, .int x3]) (st' := []) hX ok_Model_judge rfl ?_
      refine kx_ite (fun c3 => ?_) (fun c3 => ?_)
      · refine kx_weak (lv' := [.null, .null, .null, .int x3]) (by simp [xsub]) ?_
        intro h; have h := Option.some.inj h; subst h
        exact hk
      · refine kx_go 3 (pc' := 41) (lv' := [.ref 88, .int x1, .null, .int x3]) (st' := [.int x3, .int x1, .ref 88]) hX ok_Model_judge rfl ?_
        refine kx_bind (fun p4 hp4 => ?_)
        refine kx_V (r := 88) (as := [.int x1, .int x3]) (by decide) hX ok_Model_judge (nx := 44) rfl l_Model_306 (by decide) rfl (fun _ => s_Model_isRight (G := G) (d := 52) (Nat.le_refl _) C I x1 x3 p4 hp4) (by omega) rfl (rest := []) rfl (Nat.le_of_ble_eq_true rfl) ⟨Nat.le_of_ble_eq_true rfl, Nat.le_of_ble_eq_true rfl⟩ ?_
        show _ → kW G X m_Model_judge C p4.2 0 0 44 [.ref 88, .int x1, .null, .int x3] [.int p4.1]
        refine kx_go 1 (pc' := if p4.1 = (0 : Int32) then 53 else 47) (lv' := [.ref 88, .int x1, .null, .int x3]) (st' := []) hX ok_Model_judge rfl ?_
        refine kx_ite (fun c5 => ?_) (fun c5 => ?_)
        · refine kx_weak (lv' := [.null, .null, .null, .int x3]) (by simp [xsub]) ?_
          intro h; have h := Option.some.inj h; subst h
          exact hk
        · refine kx_go 2 (pc' := 18) (lv' := [.ref 88, .int x1, .null, .int (x3 + (1 : Int32))]) (st' := []) hX ok_Model_judge rfl ?_
          exact fun h => ih (x3 + (1 : Int32)) p4.2 r hk h
def M_Model_judge (I : HI) (x1 : Int32) : Option (Int32 × HI) := Option.bind (M_Model_whyNot I x1) fun p1 => if p1 = (0 : Int32) then (Option.bind (L_Model_judge_18 x1 1000 (0 : Int32) I) fun p3 => some (p3.1, p3.2)) else (Option.bind (M_Model_finds I p1) fun p4 => some (p4.1, p4.2))
theorem s_Model_judge {G : xG} {d : Nat} (hd : 53 ≤ d) (C : HC) (I : HI) (x1 : Int32)  (r : Int32 × HI) : M_Model_judge I x1 = some r → kM G d m_Model_judge [.ref 88, .int x1] C I 0 0 (some (.int r.1)) C r.2 := by
  unfold M_Model_judge
  refine kM.of (by decide +kernel) (Nat.le_of_ble_eq_true rfl) (lv := [.ref 88, .int x1, .null, .null]) rfl (fun X hX hE => ?_)
  refine kx_go 2 (pc' := 2) (lv' := [.ref 88, .int x1, .null, .null]) (st' := [.int x1, .ref 88]) hX ok_Model_judge rfl ?_
  refine kx_bind (fun p1 hp1 => ?_)
  refine kx_V (r := 88) (as := [.int x1]) (by decide) hX ok_Model_judge (nx := 5) rfl l_Model_303 (by decide) rfl (fun _ => s_Model_whyNot (G := G) (d := 2) (Nat.le_refl _) C I x1 p1 hp1) (by omega) rfl (rest := []) rfl (Nat.le_of_ble_eq_true rfl) ⟨Nat.le_of_ble_eq_true rfl, Nat.le_of_ble_eq_true rfl⟩ ?_
  show _ → kW G X m_Model_judge C I 0 0 5 [.ref 88, .int x1, .null, .null] [.int p1]
  refine kx_go 3 (pc' := if p1 = (0 : Int32) then 16 else 10) (lv' := [.ref 88, .int x1, .int p1, .null]) (st' := []) hX ok_Model_judge rfl ?_
  refine kx_ite (fun c2 => ?_) (fun c2 => ?_)
  · refine kx_go 2 (pc' := 18) (lv' := [.ref 88, .int x1, .int p1, .int (0 : Int32)]) (st' := []) hX ok_Model_judge rfl ?_
    refine kx_weak (lv' := [.ref 88, .int x1, .null, .int (0 : Int32)]) (by simp [xsub]) ?_
    refine kx_bind (fun p3 hp3 => ?_)
    refine kx_via (fun hk => s_L_Model_judge_18 (G := G) (X := X) (by omega) hX C x1 1000 (0 : Int32) I p3 hk hp3) ?_
    refine kx_go 1 (pc' := 54) (lv' := [.null, .null, .null, .int p3.1]) (st' := [.int p3.1]) hX ok_Model_judge rfl ?_
    intro h; have h := Option.some.inj h; subst h
    exact kx_iret hX hE ok_Model_judge (nx := 55) rfl rfl ⟨Nat.le_of_ble_eq_true rfl, Nat.le_of_ble_eq_true rfl⟩
  · refine kx_go 2 (pc' := 12) (lv' := [.ref 88, .int x1, .int p1, .null]) (st' := [.int p1, .ref 88]) hX ok_Model_judge rfl ?_
    refine kx_bind (fun p4 hp4 => ?_)
    refine kx_V (r := 88) (as := [.int p1]) (by decide) hX ok_Model_judge (nx := 15) rfl l_Model_129 (by decide) rfl (fun _ => s_Model_finds (G := G) (d := 0) (Nat.le_refl _) C I p1 p4 hp4) (by omega) rfl (rest := []) rfl (Nat.le_of_ble_eq_true rfl) ⟨Nat.le_of_ble_eq_true rfl, Nat.le_of_ble_eq_true rfl⟩ ?_
    show _ → kW G X m_Model_judge C p4.2 0 0 15 [.ref 88, .int x1, .int p1, .null] [.int p4.1]
    intro h; have h := Option.some.inj h; subst h
    exact kx_iret hX hE ok_Model_judge (nx := 16) rfl rfl ⟨Nat.le_of_ble_eq_true rfl, Nat.le_of_ble_eq_true rfl⟩
def L_Model_copies_2  : Nat → Int32 → HI → Option (HI)
  | 0, _, _ => none
  | f + 1, x2, I => if (270 : Int32) ≤ x2 then (some I) else (grd (bnd x2 270) (lt (xu I 90 x2.toNatClampNeg (I 89 x2.toNatClampNeg)) fun J3 => L_Model_copies_2 f (x2 + (1 : Int32)) J3))
theorem s_L_Model_copies_2 {G : xG} {X : xC} {d : Nat} (hd : 0 ≤ d) (hX : xAmb G X m_Model_copies d 0 0)  (C : HC) : ∀ (f : Nat) (x2 : Int32) (I : HI) (r : HI), (kW G X m_Model_copies C r 0 0 21 [.null, .null, .null] []) → L_Model_copies_2 f x2 I = some r → kW G X m_Model_copies C I 0 0 2 [.ref 89, .ref 90, .int x2] [] := by
  intro f
  induction f with
  | zero => intro x2 I r hk h; rw [L_Model_copies_2] at h; cases h
  | succ f ih =>
    intro x2 I r hk
    rw [L_Model_copies_2]
    refine kx_go 3 (pc' := if (270 : Int32) ≤ x2 then 21 else 9) (lv' := [.ref 89, .ref 90, .int x2]) (st' := []) hX ok_Model_copies rfl ?_
    refine kx_ite (fun c1 => ?_) (fun c1 => ?_)
    · refine kx_weak (lv' := [.null, .null, .null]) (by simp [xsub]) ?_
      intro h; have h := Option.some.inj h; subst h
      exact hk
    · refine kx_go 4 (pc' := 13) (lv' := [.ref 89, .ref 90, .int x2]) (st' := [.int x2, .ref 89, .int x2, .ref 90]) hX ok_Model_copies rfl ?_
      refine kx_iald hX ok_Model_copies (w := 270) (nx := 14) rfl (fun b2 => ?_)
      refine kx_iastc hX ok_Model_copies (w := 270) (nx := 15) rfl b2 (k := x2.toNatClampNeg) rfl ?_
      refine kx_lt (Q := fun J3 => kW G X m_Model_copies C J3 0 0 15 [.ref 89, .ref 90, .int x2] []) (fun J3 eJ3 => ?_)
      refine kx_go 2 (pc' := 2) (lv' := [.ref 89, .ref 90, .int (x2 + (1 : Int32))]) (st' := []) hX ok_Model_copies rfl ?_
      exact fun h => ih (x2 + (1 : Int32)) J3 r hk h
def M_Model_copies (I : HI) : Option (HI) := Option.bind (L_Model_copies_2 1000 (0 : Int32) I) fun p1 => some p1
theorem s_Model_copies {G : xG} {d : Nat} (hd : 0 ≤ d) (C : HC) (I : HI)   (r : HI) : M_Model_copies I = some r → kM G d m_Model_copies [.ref 89, .ref 90] C I 0 0 none C r := by
  unfold M_Model_copies
  refine kM.of (by decide +kernel) (Nat.le_of_ble_eq_true rfl) (lv := [.ref 89, .ref 90, .null]) rfl (fun X hX hE => ?_)
  refine kx_go 2 (pc' := 2) (lv' := [.ref 89, .ref 90, .int (0 : Int32)]) (st' := []) hX ok_Model_copies rfl ?_
  refine kx_bind (fun p1 hp1 => ?_)
  refine kx_via (fun hk => s_L_Model_copies_2 (G := G) (X := X) (by omega) hX C 1000 (0 : Int32) I p1 hk hp1) ?_
  intro h; have h := Option.some.inj h; subst h
  exact kx_vret hX hE ok_Model_copies (nx := 22) rfl rfl ⟨Nat.le_of_ble_eq_true rfl, Nat.le_of_ble_eq_true rfl⟩
def M_Model_image (I : HI) : Option (Int32 × HI) := Option.bind (M_Model_copies I) fun p1 => lt (xu p1 88 2 ((p1 88 2) + (1 : Int32))) fun J2 => some ((J2 88 2), J2)
theorem s_Model_image {G : xG} {d : Nat} (hd : 1 ≤ d) (C : HC) (I : HI)   (r : Int32 × HI) : M_Model_image I = some r → kM G d m_Model_image [.ref 88] C I 0 0 (some (.int r.1)) C r.2 := by
  unfold M_Model_image
  refine kM.of (by decide +kernel) (Nat.le_of_ble_eq_true rfl) (lv := [.ref 88]) rfl (fun X hX hE => ?_)
  refine kx_go 1 (pc' := 1) (lv' := [.ref 88]) (st' := [.ref 88]) hX ok_Model_image rfl ?_
  refine kx_getp hX ok_Model_image rfl (q := 89) (nx := 4) rfl ?_
  refine kx_go 1 (pc' := 5) (lv' := [.ref 88]) (st' := [.ref 88, .ref 89]) hX ok_Model_image rfl ?_
  refine kx_getp hX ok_Model_image rfl (q := 90) (nx := 8) rfl ?_
  refine kx_bind (fun p1 hp1 => ?_)
  refine kx_S (as := [.ref 89, .ref 90]) hX ok_Model_image (nx := 11) rfl l_Model_309 (fun _ => s_Model_copies (G := G) (d := 0) (Nat.le_refl _) C I  p1 hp1) (by omega) rfl (rest := []) rfl (Nat.le_of_ble_eq_true rfl) ⟨Nat.le_of_ble_eq_true rfl, Nat.le_of_ble_eq_true rfl⟩ ?_
  show _ → kW G X m_Model_image C p1 0 0 11 [.ref 88] []
  refine kx_go 2 (pc' := 13) (lv' := [.ref 88]) (st' := [.ref 88, .ref 88]) hX ok_Model_image rfl ?_
  refine kx_geti hX ok_Model_image rfl (k := 2) (nx := 16) rfl ?_
  refine kx_go 2 (pc' := 18) (lv' := [.ref 88]) (st' := [.int ((p1 88 2) + (1 : Int32)), .ref 88]) hX ok_Model_image rfl ?_
  refine kx_puti hX ok_Model_image rfl (k := 2) (nx := 21) rfl rfl ?_
  refine kx_lt (Q := fun J2 => kW G X m_Model_image C J2 0 0 21 [.ref 88] []) (fun J2 eJ2 => ?_)
  refine kx_go 1 (pc' := 22) (lv' := [.ref 88]) (st' := [.ref 88]) hX ok_Model_image rfl ?_
  refine kx_geti hX ok_Model_image rfl (k := 2) (nx := 25) rfl ?_
  intro h; have h := Option.some.inj h; subst h
  exact kx_iret hX hE ok_Model_image (nx := 26) rfl rfl ⟨Nat.le_of_ble_eq_true rfl, Nat.le_of_ble_eq_true rfl⟩
def L_Model_copies_2_2  : Nat → Int32 → HI → Option (HI)
  | 0, _, _ => none
  | f + 1, x2, I => if (270 : Int32) ≤ x2 then (some I) else (grd (bnd x2 270) (lt (xu I 89 x2.toNatClampNeg (I 90 x2.toNatClampNeg)) fun J3 => L_Model_copies_2_2 f (x2 + (1 : Int32)) J3))
theorem s_L_Model_copies_2_2 {G : xG} {X : xC} {d : Nat} (hd : 0 ≤ d) (hX : xAmb G X m_Model_copies d 0 0)  (C : HC) : ∀ (f : Nat) (x2 : Int32) (I : HI) (r : HI), (kW G X m_Model_copies C r 0 0 21 [.null, .null, .null] []) → L_Model_copies_2_2 f x2 I = some r → kW G X m_Model_copies C I 0 0 2 [.ref 90, .ref 89, .int x2] [] := by
  intro f
  induction f with
  | zero => intro x2 I r hk h; rw [L_Model_copies_2_2] at h; cases h
  | succ f ih =>
    intro x2 I r hk
    rw [L_Model_copies_2_2]
    refine kx_go 3 (pc' := if (270 : Int32) ≤ x2 then 21 else 9) (lv' := [.ref 90, .ref 89, .int x2]) (st' := []) hX ok_Model_copies rfl ?_
    refine kx_ite (fun c1 => ?_) (fun c1 => ?_)
    · refine kx_weak (lv' := [.null, .null, .null]) (by simp [xsub]) ?_
      intro h; have h := Option.some.inj h; subst h
      exact hk
    · refine kx_go 4 (pc' := 13) (lv' := [.ref 90, .ref 89, .int x2]) (st' := [.int x2, .ref 90, .int x2, .ref 89]) hX ok_Model_copies rfl ?_
      refine kx_iald hX ok_Model_copies (w := 270) (nx := 14) rfl (fun b2 => ?_)
      refine kx_iastc hX ok_Model_copies (w := 270) (nx := 15) rfl b2 (k := x2.toNatClampNeg) rfl ?_
      refine kx_lt (Q := fun J3 => kW G X m_Model_copies C J3 0 0 15 [.ref 90, .ref 89, .int x2] []) (fun J3 eJ3 => ?_)
      refine kx_go 2 (pc' := 2) (lv' := [.ref 90, .ref 89, .int (x2 + (1 : Int32))]) (st' := []) hX ok_Model_copies rfl ?_
      exact fun h => ih (x2 + (1 : Int32)) J3 r hk h
def M_Model_copies_2 (I : HI) : Option (HI) := Option.bind (L_Model_copies_2_2 1000 (0 : Int32) I) fun p1 => some p1
theorem s_Model_copies_2 {G : xG} {d : Nat} (hd : 0 ≤ d) (C : HC) (I : HI)   (r : HI) : M_Model_copies_2 I = some r → kM G d m_Model_copies [.ref 90, .ref 89] C I 0 0 none C r := by
  unfold M_Model_copies_2
  refine kM.of (by decide +kernel) (Nat.le_of_ble_eq_true rfl) (lv := [.ref 90, .ref 89, .null]) rfl (fun X hX hE => ?_)
  refine kx_go 2 (pc' := 2) (lv' := [.ref 90, .ref 89, .int (0 : Int32)]) (st' := []) hX ok_Model_copies rfl ?_
  refine kx_bind (fun p1 hp1 => ?_)
  refine kx_via (fun hk => s_L_Model_copies_2_2 (G := G) (X := X) (by omega) hX C 1000 (0 : Int32) I p1 hk hp1) ?_
  intro h; have h := Option.some.inj h; subst h
  exact kx_vret hX hE ok_Model_copies (nx := 22) rfl rfl ⟨Nat.le_of_ble_eq_true rfl, Nat.le_of_ble_eq_true rfl⟩
def M_Model_restore (I : HI) : Option (Int32 × HI) := if (I 88 2) = (0 : Int32) then (Option.bind (M_Model_finds I (2 : Int32)) fun p2 => some (p2.1, p2.2)) else (Option.bind (M_Model_copies_2 I) fun p3 => some ((p3 89 0), p3))
theorem s_Model_restore {G : xG} {d : Nat} (hd : 1 ≤ d) (C : HC) (I : HI)   (r : Int32 × HI) : M_Model_restore I = some r → kM G d m_Model_restore [.ref 88] C I 0 0 (some (.int r.1)) C r.2 := by
  unfold M_Model_restore
  refine kM.of (by decide +kernel) (Nat.le_of_ble_eq_true rfl) (lv := [.ref 88]) rfl (fun X hX hE => ?_)
  refine kx_go 1 (pc' := 1) (lv' := [.ref 88]) (st' := [.ref 88]) hX ok_Model_restore rfl ?_
  refine kx_geti hX ok_Model_restore rfl (k := 2) (nx := 4) rfl ?_
  refine kx_go 1 (pc' := if (I 88 2) = (0 : Int32) then 7 else 13) (lv' := [.ref 88]) (st' := []) hX ok_Model_restore rfl ?_
  refine kx_ite (fun c1 => ?_) (fun c1 => ?_)
  · refine kx_go 2 (pc' := 9) (lv' := [.ref 88]) (st' := [.int (2 : Int32), .ref 88]) hX ok_Model_restore rfl ?_
    refine kx_bind (fun p2 hp2 => ?_)
    refine kx_V (r := 88) (as := [.int (2 : Int32)]) (by decide) hX ok_Model_restore (nx := 12) rfl l_Model_129 (by decide) rfl (fun _ => s_Model_finds (G := G) (d := 0) (Nat.le_refl _) C I (2 : Int32) p2 hp2) (by omega) rfl (rest := []) rfl (Nat.le_of_ble_eq_true rfl) ⟨Nat.le_of_ble_eq_true rfl, Nat.le_of_ble_eq_true rfl⟩ ?_
    show _ → kW G X m_Model_restore C p2.2 0 0 12 [.ref 88] [.int p2.1]
    intro h; have h := Option.some.inj h; subst h
    exact kx_iret hX hE ok_Model_restore (nx := 13) rfl rfl ⟨Nat.le_of_ble_eq_true rfl, Nat.le_of_ble_eq_true rfl⟩
  · refine kx_go 1 (pc' := 14) (lv' := [.ref 88]) (st' := [.ref 88]) hX ok_Model_restore rfl ?_
    refine kx_getp hX ok_Model_restore rfl (q := 90) (nx := 17) rfl ?_
    refine kx_go 1 (pc' := 18) (lv' := [.ref 88]) (st' := [.ref 88, .ref 90]) hX ok_Model_restore rfl ?_
    refine kx_getp hX ok_Model_restore rfl (q := 89) (nx := 21) rfl ?_
    refine kx_bind (fun p3 hp3 => ?_)
    refine kx_S (as := [.ref 90, .ref 89]) hX ok_Model_restore (nx := 24) rfl l_Model_309 (fun _ => s_Model_copies_2 (G := G) (d := 0) (Nat.le_refl _) C I  p3 hp3) (by omega) rfl (rest := []) rfl (Nat.le_of_ble_eq_true rfl) ⟨Nat.le_of_ble_eq_true rfl, Nat.le_of_ble_eq_true rfl⟩ ?_
    show _ → kW G X m_Model_restore C p3 0 0 24 [.ref 88] []
    refine kx_go 1 (pc' := 25) (lv' := [.ref 88]) (st' := [.ref 88]) hX ok_Model_restore rfl ?_
    refine kx_getp hX ok_Model_restore rfl (q := 89) (nx := 28) rfl ?_
    refine kx_go 1 (pc' := 29) (lv' := [.ref 88]) (st' := [.int (0 : Int32), .ref 89]) hX ok_Model_restore rfl ?_
    refine kx_ialdc hX ok_Model_restore (w := 270) (nx := 30) rfl rfl (k := 0) rfl ?_
    intro h; have h := Option.some.inj h; subst h
    exact kx_iret hX hE ok_Model_restore (nx := 31) rfl rfl ⟨Nat.le_of_ble_eq_true rfl, Nat.le_of_ble_eq_true rfl⟩
def M_Model_tell (I : HI) (x1 : Int32) : Option (Int32 × HI) := if (I 89 4) = (20 : Int32) then (Option.bind (M_Model_finds I (4 : Int32)) fun p2 => some (p2.1, p2.2)) else (grd (bnd ((99 : Int32) + (I 89 4)) 270) (lt (xu I 89 ((99 : Int32) + (I 89 4)).toNatClampNeg x1) fun J4 => lt (xu J4 89 4 ((J4 89 4) + (1 : Int32))) fun J5 => some ((J5 89 4), J5)))
theorem s_Model_tell {G : xG} {d : Nat} (hd : 1 ≤ d) (C : HC) (I : HI) (x1 : Int32)  (r : Int32 × HI) : M_Model_tell I x1 = some r → kM G d m_Model_tell [.ref 88, .int x1] C I 0 0 (some (.int r.1)) C r.2 := by
  unfold M_Model_tell
  refine kM.of (by decide +kernel) (Nat.le_of_ble_eq_true rfl) (lv := [.ref 88, .int x1]) rfl (fun X hX hE => ?_)
  refine kx_go 1 (pc' := 1) (lv' := [.ref 88, .int x1]) (st' := [.ref 88]) hX ok_Model_tell rfl ?_
  refine kx_getp hX ok_Model_tell rfl (q := 89) (nx := 4) rfl ?_
  refine kx_go 1 (pc' := 5) (lv' := [.ref 88, .int x1]) (st' := [.int (4 : Int32), .ref 89]) hX ok_Model_tell rfl ?_
  refine kx_ialdc hX ok_Model_tell (w := 270) (nx := 6) rfl rfl (k := 4) rfl ?_
  refine kx_go 2 (pc' := if (I 89 4) = (20 : Int32) then 11 else 17) (lv' := [.ref 88, .int x1]) (st' := []) hX ok_Model_tell rfl ?_
  refine kx_ite (fun c1 => ?_) (fun c1 => ?_)
  · refine kx_go 2 (pc' := 13) (lv' := [.ref 88, .int x1]) (st' := [.int (4 : Int32), .ref 88]) hX ok_Model_tell rfl ?_
    refine kx_bind (fun p2 hp2 => ?_)
    refine kx_V (r := 88) (as := [.int (4 : Int32)]) (by decide) hX ok_Model_tell (nx := 16) rfl l_Model_129 (by decide) rfl (fun _ => s_Model_finds (G := G) (d := 0) (Nat.le_refl _) C I (4 : Int32) p2 hp2) (by omega) rfl (rest := []) rfl (Nat.le_of_ble_eq_true rfl) ⟨Nat.le_of_ble_eq_true rfl, Nat.le_of_ble_eq_true rfl⟩ ?_
    show _ → kW G X m_Model_tell C p2.2 0 0 16 [.ref 88, .int x1] [.int p2.1]
    intro h; have h := Option.some.inj h; subst h
    exact kx_iret hX hE ok_Model_tell (nx := 17) rfl rfl ⟨Nat.le_of_ble_eq_true rfl, Nat.le_of_ble_eq_true rfl⟩
  · refine kx_go 1 (pc' := 18) (lv' := [.ref 88, .int x1]) (st' := [.ref 88]) hX ok_Model_tell rfl ?_
    refine kx_getp hX ok_Model_tell rfl (q := 89) (nx := 21) rfl ?_
    refine kx_go 2 (pc' := 24) (lv' := [.ref 88, .int x1]) (st' := [.ref 88, .int (99 : Int32), .ref 89]) hX ok_Model_tell rfl ?_
    refine kx_getp hX ok_Model_tell rfl (q := 89) (nx := 27) rfl ?_
    refine kx_go 1 (pc' := 28) (lv' := [.ref 88, .int x1]) (st' := [.int (4 : Int32), .ref 89, .int (99 : Int32), .ref 89]) hX ok_Model_tell rfl ?_
    refine kx_ialdc hX ok_Model_tell (w := 270) (nx := 29) rfl rfl (k := 4) rfl ?_
    refine kx_go 2 (pc' := 31) (lv' := [.ref 88, .int x1]) (st' := [.int x1, .int ((99 : Int32) + (I 89 4)), .ref 89]) hX ok_Model_tell rfl ?_
    refine kx_iast hX ok_Model_tell (w := 270) (nx := 32) rfl (fun b3 => ?_)
    refine kx_lt (Q := fun J4 => kW G X m_Model_tell C J4 0 0 32 [.ref 88, .int x1] []) (fun J4 eJ4 => ?_)
    refine kx_go 1 (pc' := 33) (lv' := [.ref 88, .int x1]) (st' := [.ref 88]) hX ok_Model_tell rfl ?_
    refine kx_getp hX ok_Model_tell rfl (q := 89) (nx := 36) rfl ?_
    refine kx_go 2 (pc' := 38) (lv' := [.ref 88, .int x1]) (st' := [.int (4 : Int32), .ref 89, .int (4 : Int32), .ref 89]) hX ok_Model_tell rfl ?_
    refine kx_ialdc hX ok_Model_tell (w := 270) (nx := 39) rfl rfl (k := 4) rfl ?_
    refine kx_go 2 (pc' := 41) (lv' := [.ref 88, .int x1]) (st' := [.int ((J4 89 4) + (1 : Int32)), .int (4 : Int32), .ref 89]) hX ok_Model_tell rfl ?_
    refine kx_iastc hX ok_Model_tell (w := 270) (nx := 42) rfl rfl (k := 4) rfl ?_
    refine kx_lt (Q := fun J5 => kW G X m_Model_tell C J5 0 0 42 [.ref 88, .int x1] []) (fun J5 eJ5 => ?_)
    refine kx_go 1 (pc' := 43) (lv' := [.ref 88, .int x1]) (st' := [.ref 88]) hX ok_Model_tell rfl ?_
    refine kx_getp hX ok_Model_tell rfl (q := 89) (nx := 46) rfl ?_
    refine kx_go 1 (pc' := 47) (lv' := [.ref 88, .int x1]) (st' := [.int (4 : Int32), .ref 89]) hX ok_Model_tell rfl ?_
    refine kx_ialdc hX ok_Model_tell (w := 270) (nx := 48) rfl rfl (k := 4) rfl ?_
    intro h; have h := Option.some.inj h; subst h
    exact kx_iret hX hE ok_Model_tell (nx := 49) rfl rfl ⟨Nat.le_of_ble_eq_true rfl, Nat.le_of_ble_eq_true rfl⟩
def L_Model_check_22 (x1 : Int32) (I : HI) : Nat → Int32 → Int32 → Option (Int32)
  | 0, _, _ => none
  | f + 1, x2, x3 => if x1 ≤ x3 then (some x3) else (if (I 89 0) ≤ x3 then (some x3) else (grd (bnd ((99 : Int32) + x3) 270) (if (M_Model_isStroke I (I 89 ((99 : Int32) + x3).toNatClampNeg)) = (0 : Int32) then (some x3) else (Option.bind (M_Model_mayLie I (I 89 ((99 : Int32) + x3).toNatClampNeg) x2) fun p5 => if p5 = (0 : Int32) then (some x3) else (lt (x2 ||| ((1 : Int32) <<< ((I 89 ((99 : Int32) + x3).toNatClampNeg) &&& (31 : Int32)))) fun y7 => L_Model_check_22 x1 I f y7 (x3 + (1 : Int32)))))))
theorem s_L_Model_check_22 {G : xG} {X : xC} {d : Nat} (hd : 2 ≤ d) (hX : xAmb G X m_Model_check d 0 0)  (C : HC) (x1 : Int32) (I : HI) : ∀ (f : Nat) (x2 : Int32) (x3 : Int32) (r : Int32), (kW G X m_Model_check C I 0 0 90 [.ref 88, .int x1, .null, .int r] []) → L_Model_check_22 x1 I f x2 x3 = some r → kW G X m_Model_check C I 0 0 22 [.ref 88, .int x1, .int x2, .int x3] [] := by
  intro f
  induction f with
  | zero => intro x2 x3 r hk h; rw [L_Model_check_22] at h; cases h
  | succ f ih =>
    intro x2 x3 r hk
    rw [L_Model_check_22]
    refine kx_go 3 (pc' := if x1 ≤ x3 then 90 else 27) (lv' := [.ref 88, .int x1, .int x2, .int x3]) (st' := []) hX ok_Model_check rfl ?_
    refine kx_ite (fun c1 => ?_) (fun c1 => ?_)
    · refine kx_weak (lv' := [.ref 88, .int x1, .null, .int x3]) (by simp [xsub]) ?_
      intro h; have h := Option.some.inj h; subst h
      exact hk
    · refine kx_go 2 (pc' := 29) (lv' := [.ref 88, .int x1, .int x2, .int x3]) (st' := [.ref 88, .int x3]) hX ok_Model_check rfl ?_
      refine kx_getp hX ok_Model_check rfl (q := 89) (nx := 32) rfl ?_
      refine kx_go 1 (pc' := 33) (lv' := [.ref 88, .int x1, .int x2, .int x3]) (st' := [.int (0 : Int32), .ref 89, .int x3]) hX ok_Model_check rfl ?_
      refine kx_ialdc hX ok_Model_check (w := 270) (nx := 34) rfl rfl (k := 0) rfl ?_
      refine kx_go 1 (pc' := if (I 89 0) ≤ x3 then 90 else 37) (lv' := [.ref 88, .int x1, .int x2, .int x3]) (st' := []) hX ok_Model_check rfl ?_
      refine kx_ite (fun c2 => ?_) (fun c2 => ?_)
      · refine kx_weak (lv' := [.ref 88, .int x1, .null, .int x3]) (by simp [xsub]) ?_
        intro h; have h := Option.some.inj h; subst h
        exact hk
      · refine kx_go 2 (pc' := 39) (lv' := [.ref 88, .int x1, .int x2, .int x3]) (st' := [.ref 88, .ref 88]) hX ok_Model_check rfl ?_
        refine kx_getp hX ok_Model_check rfl (q := 89) (nx := 42) rfl ?_
        refine kx_go 3 (pc' := 46) (lv' := [.ref 88, .int x1, .int x2, .int x3]) (st' := [.int ((99 : Int32) + x3), .ref 89, .ref 88]) hX ok_Model_check rfl ?_
        refine kx_iald hX ok_Model_check (w := 270) (nx := 47) rfl (fun b3 => ?_)
        refine kx_V (r := 88) (as := [.int (I 89 ((99 : Int32) + x3).toNatClampNeg)]) (by decide) hX ok_Model_check (nx := 50) rfl l_Model_165 (by decide) rfl (fun _ => s_Model_isStroke (G := G) (d := 1) (Nat.le_refl _) C I (I 89 ((99 : Int32) + x3).toNatClampNeg) _ rfl) (by omega) rfl (rest := []) rfl (Nat.le_of_ble_eq_true rfl) ⟨Nat.le_of_ble_eq_true rfl, Nat.le_of_ble_eq_true rfl⟩ ?_
        show _ → kW G X m_Model_check C I 0 0 50 [.ref 88, .int x1, .int x2, .int x3] [.int (M_Model_isStroke I (I 89 ((99 : Int32) + x3).toNatClampNeg))]
        refine kx_go 1 (pc' := if (M_Model_isStroke I (I 89 ((99 : Int32) + x3).toNatClampNeg)) = (0 : Int32) then 90 else 53) (lv' := [.ref 88, .int x1, .int x2, .int x3]) (st' := []) hX ok_Model_check rfl ?_
        refine kx_ite (fun c4 => ?_) (fun c4 => ?_)
        · refine kx_weak (lv' := [.ref 88, .int x1, .null, .int x3]) (by simp [xsub]) ?_
          intro h; have h := Option.some.inj h; subst h
          exact hk
        · refine kx_go 2 (pc' := 55) (lv' := [.ref 88, .int x1, .int x2, .int x3]) (st' := [.ref 88, .ref 88]) hX ok_Model_check rfl ?_
          refine kx_getp hX ok_Model_check rfl (q := 89) (nx := 58) rfl ?_
          refine kx_go 3 (pc' := 62) (lv' := [.ref 88, .int x1, .int x2, .int x3]) (st' := [.int ((99 : Int32) + x3), .ref 89, .ref 88]) hX ok_Model_check rfl ?_
          refine kx_ialdc hX ok_Model_check (w := 270) (nx := 63) rfl b3 (k := ((99 : Int32) + x3).toNatClampNeg) rfl ?_
          refine kx_go 1 (pc' := 64) (lv' := [.ref 88, .int x1, .int x2, .int x3]) (st' := [.int x2, .int (I 89 ((99 : Int32) + x3).toNatClampNeg), .ref 88]) hX ok_Model_check rfl ?_
          refine kx_bind (fun p5 hp5 => ?_)
          refine kx_V (r := 88) (as := [.int (I 89 ((99 : Int32) + x3).toNatClampNeg), .int x2]) (by decide) hX ok_Model_check (nx := 67) rfl l_Model_214 (by decide) rfl (fun _ => s_Model_mayLie (G := G) (d := 0) (Nat.le_refl _) C I (I 89 ((99 : Int32) + x3).toNatClampNeg) x2 p5 hp5) (by omega) rfl (rest := []) rfl (Nat.le_of_ble_eq_true rfl) ⟨Nat.le_of_ble_eq_true rfl, Nat.le_of_ble_eq_true rfl⟩ ?_
          show _ → kW G X m_Model_check C I 0 0 67 [.ref 88, .int x1, .int x2, .int x3] [.int p5]
          refine kx_go 1 (pc' := if p5 = (0 : Int32) then 90 else 70) (lv' := [.ref 88, .int x1, .int x2, .int x3]) (st' := []) hX ok_Model_check rfl ?_
          refine kx_ite (fun c6 => ?_) (fun c6 => ?_)
          · refine kx_weak (lv' := [.ref 88, .int x1, .null, .int x3]) (by simp [xsub]) ?_
            intro h; have h := Option.some.inj h; subst h
            exact hk
          · refine kx_go 3 (pc' := 73) (lv' := [.ref 88, .int x1, .int x2, .int x3]) (st' := [.ref 88, .int (1 : Int32), .int x2]) hX ok_Model_check rfl ?_
            refine kx_getp hX ok_Model_check rfl (q := 89) (nx := 76) rfl ?_
            refine kx_go 3 (pc' := 80) (lv' := [.ref 88, .int x1, .int x2, .int x3]) (st' := [.int ((99 : Int32) + x3), .ref 89, .int (1 : Int32), .int x2]) hX ok_Model_check rfl ?_
            refine kx_ialdc hX ok_Model_check (w := 270) (nx := 81) rfl b3 (k := ((99 : Int32) + x3).toNatClampNeg) rfl ?_
            refine kx_go 3 (pc' := 84) (lv' := [.ref 88, .int x1, .int (x2 ||| ((1 : Int32) <<< ((I 89 ((99 : Int32) + x3).toNatClampNeg) &&& (31 : Int32)))), .int x3]) (st' := []) hX ok_Model_check rfl ?_
            refine kx_lt (Q := fun y7 => kW G X m_Model_check C I 0 0 84 [.ref 88, .int x1, .int y7, .int x3] []) (fun y7 ey7 => ?_)
            refine kx_go 2 (pc' := 22) (lv' := [.ref 88, .int x1, .int y7, .int (x3 + (1 : Int32))]) (st' := []) hX ok_Model_check rfl ?_
            exact fun h => ih y7 (x3 + (1 : Int32)) r hk h
def M_Model_check (I : HI) : Option (Int32 × HI) := lt (xu I 89 4 (0 : Int32)) fun J1 => Option.bind (M_Model_findBelow J1) fun p2 => Option.bind (L_Model_check_22 (I 89 4) p2 1000 (0 : Int32) (0 : Int32)) fun p3 => if p3 = (I 89 4) then (if p3 = (p2 89 0) then (some ((0 : Int32), p2)) else (some (((1 : Int32) + p3), p2))) else (some (((1 : Int32) + p3), p2))
theorem s_Model_check {G : xG} {d : Nat} (hd : 2 ≤ d) (C : HC) (I : HI)   (r : Int32 × HI) : M_Model_check I = some r → kM G d m_Model_check [.ref 88] C I 0 0 (some (.int r.1)) C r.2 := by
  unfold M_Model_check
  refine kM.of (by decide +kernel) (Nat.le_of_ble_eq_true rfl) (lv := [.ref 88, .null, .null, .null]) rfl (fun X hX hE => ?_)
  refine kx_go 1 (pc' := 1) (lv' := [.ref 88, .null, .null, .null]) (st' := [.ref 88]) hX ok_Model_check rfl ?_
  refine kx_getp hX ok_Model_check rfl (q := 89) (nx := 4) rfl ?_
  refine kx_go 1 (pc' := 5) (lv' := [.ref 88, .null, .null, .null]) (st' := [.int (4 : Int32), .ref 89]) hX ok_Model_check rfl ?_
  refine kx_ialdc hX ok_Model_check (w := 270) (nx := 6) rfl rfl (k := 4) rfl ?_
  refine kx_go 2 (pc' := 8) (lv' := [.ref 88, .int (I 89 4), .null, .null]) (st' := [.ref 88]) hX ok_Model_check rfl ?_
  refine kx_getp hX ok_Model_check rfl (q := 89) (nx := 11) rfl ?_
  refine kx_go 2 (pc' := 13) (lv' := [.ref 88, .int (I 89 4), .null, .null]) (st' := [.int (0 : Int32), .int (4 : Int32), .ref 89]) hX ok_Model_check rfl ?_
  refine kx_iastc hX ok_Model_check (w := 270) (nx := 14) rfl rfl (k := 4) rfl ?_
  refine kx_lt (Q := fun J1 => kW G X m_Model_check C J1 0 0 14 [.ref 88, .int (I 89 4), .null, .null] []) (fun J1 eJ1 => ?_)
  refine kx_go 1 (pc' := 15) (lv' := [.ref 88, .int (I 89 4), .null, .null]) (st' := [.ref 88]) hX ok_Model_check rfl ?_
  refine kx_bind (fun p2 hp2 => ?_)
  refine kx_V (r := 88) (as := []) (by decide) hX ok_Model_check (nx := 18) rfl l_Model_208 (by decide) rfl (fun _ => s_Model_findBelow (G := G) (d := 1) (Nat.le_refl _) C J1  p2 hp2) (by omega) rfl (rest := []) rfl (Nat.le_of_ble_eq_true rfl) ⟨Nat.le_of_ble_eq_true rfl, Nat.le_of_ble_eq_true rfl⟩ ?_
  show _ → kW G X m_Model_check C p2 0 0 18 [.ref 88, .int (I 89 4), .null, .null] []
  refine kx_go 4 (pc' := 22) (lv' := [.ref 88, .int (I 89 4), .int (0 : Int32), .int (0 : Int32)]) (st' := []) hX ok_Model_check rfl ?_
  refine kx_bind (fun p3 hp3 => ?_)
  refine kx_via (fun hk => s_L_Model_check_22 (G := G) (X := X) (by omega) hX C (I 89 4) p2 1000 (0 : Int32) (0 : Int32) p3 hk hp3) ?_
  refine kx_go 3 (pc' := if p3 = (I 89 4) then 95 else 109) (lv' := [.ref 88, .int (I 89 4), .null, .int p3]) (st' := []) hX ok_Model_check rfl ?_
  refine kx_ite (fun c4 => ?_) (fun c4 => ?_)
  · refine kx_go 2 (pc' := 97) (lv' := [.ref 88, .int (I 89 4), .null, .int p3]) (st' := [.ref 88, .int p3]) hX ok_Model_check rfl ?_
    refine kx_getp hX ok_Model_check rfl (q := 89) (nx := 100) rfl ?_
    refine kx_go 1 (pc' := 101) (lv' := [.ref 88, .int (I 89 4), .null, .int p3]) (st' := [.int (0 : Int32), .ref 89, .int p3]) hX ok_Model_check rfl ?_
    refine kx_ialdc hX ok_Model_check (w := 270) (nx := 102) rfl rfl (k := 0) rfl ?_
    refine kx_go 1 (pc' := if p3 = (p2 89 0) then 105 else 109) (lv' := [.ref 88, .int (I 89 4), .null, .int p3]) (st' := []) hX ok_Model_check rfl ?_
    refine kx_ite (fun c5 => ?_) (fun c5 => ?_)
    · refine kx_go 2 (pc' := 112) (lv' := [.ref 88, .int (I 89 4), .null, .int p3]) (st' := [.int (0 : Int32)]) hX ok_Model_check rfl ?_
      intro h; have h := Option.some.inj h; subst h
      exact kx_iret hX hE ok_Model_check (nx := 113) rfl rfl ⟨Nat.le_of_ble_eq_true rfl, Nat.le_of_ble_eq_true rfl⟩
    · refine kx_go 3 (pc' := 112) (lv' := [.ref 88, .int (I 89 4), .null, .int p3]) (st' := [.int ((1 : Int32) + p3)]) hX ok_Model_check rfl ?_
      intro h; have h := Option.some.inj h; subst h
      exact kx_iret hX hE ok_Model_check (nx := 113) rfl rfl ⟨Nat.le_of_ble_eq_true rfl, Nat.le_of_ble_eq_true rfl⟩
  · refine kx_go 3 (pc' := 112) (lv' := [.ref 88, .int (I 89 4), .null, .int p3]) (st' := [.int ((1 : Int32) + p3)]) hX ok_Model_check rfl ?_
    intro h; have h := Option.some.inj h; subst h
    exact kx_iret hX hE ok_Model_check (nx := 113) rfl rfl ⟨Nat.le_of_ble_eq_true rfl, Nat.le_of_ble_eq_true rfl⟩
