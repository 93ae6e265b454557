def M_Model_span (I : HI) (x1 : Int32) (x2 : Int32) : Option (Int32 × HI) := if (M_Model_isStroke I x1) = (0 : Int32) then (Option.bind (M_Model_finds I (1 : Int32)) fun p2 => some (p2.1, p2.2)) else (if (M_Model_in (x2.toInt64) (Int64.ofNat 0) (Int64.ofNat 1)) = (0 : Int32) then (Option.bind (M_Model_finds I (1 : Int32)) fun p4 => some (p4.1, p4.2)) else (Option.bind (M_Model_findYears I) fun p5 => Option.bind (M_Model_pushes p5) fun p6 => if p6.1 = (0 : Int32) then (Option.bind (M_Model_finds p6.2 (2 : Int32)) fun p8 => some (p8.1, p8.2)) else (if x2 = (0 : Int32) then (grd (bnd x1 8) (some ((p6.2 98 x1.toNatClampNeg), p6.2))) else (grd (bnd x1 8) (some ((p6.2 99 x1.toNatClampNeg), p6.2))))))
theorem s_Model_span {G : xG} {d : Nat} (hd : 53 ≤ d) (C : HC) (I : HI) (x1 : Int32) (x2 : Int32)  (r : Int32 × HI) : M_Model_span I x1 x2 = some r → kM G d m_Model_span [.ref 88, .int x1, .int x2] C I 0 0 (some (.int r.1)) C r.2 := by
  unfold M_Model_span
  refine kM.of (by decide +kernel) (Nat.le_of_ble_eq_true rfl) (lv := [.ref 88, .int x1, .int x2]) rfl (fun X hX hE => ?_)
  refine kx_go 2 (pc' := 2) (lv' := [.ref 88, .int x1, .int x2]) (st' := [.int x1, .ref 88]) hX ok_Model_span rfl ?_
  refine kx_V (r := 88) (as := [.int x1]) (by decide) hX ok_Model_span (nx := 5) rfl l_Model_165 (by decide) rfl (fun _ => s_Model_isStroke (G := G) (d := 1) (Nat.le_refl _) C I x1 _ rfl) (by omega) rfl (rest := []) rfl (Nat.le_of_ble_eq_true rfl) ⟨Nat.le_of_ble_eq_true rfl, Nat.le_of_ble_eq_true rfl⟩ ?_
  show _ → kW G X m_Model_span C I 0 0 5 [.ref 88, .int x1, .int x2] [.int (M_Model_isStroke I x1)]
  refine kx_go 1 (pc' := if (M_Model_isStroke I x1) = (0 : Int32) then 18 else 8) (lv' := [.ref 88, .int x1, .int x2]) (st' := []) hX ok_Model_span rfl ?_
  refine kx_ite (fun c1 => ?_) (fun c1 => ?_)
  · refine kx_go 2 (pc' := 20) (lv' := [.ref 88, .int x1, .int x2]) (st' := [.int (1 : Int32), .ref 88]) hX ok_Model_span rfl ?_
    refine kx_bind (fun p2 hp2 => ?_)
    refine kx_V (r := 88) (as := [.int (1 : Int32)]) (by decide) hX ok_Model_span (nx := 23) rfl l_Model_129 (by decide) rfl (fun _ => s_Model_finds (G := G) (d := 0) (Nat.le_refl _) C I (1 : Int32) p2 hp2) (by omega) rfl (rest := []) rfl (Nat.le_of_ble_eq_true rfl) ⟨Nat.le_of_ble_eq_true rfl, Nat.le_of_ble_eq_true rfl⟩ ?_
    show _ → kW G X m_Model_span C p2.2 0 0 23 [.ref 88, .int x1, .int x2] [.int p2.1]
    intro h; have h := Option.some.inj h; subst h
    exact kx_iret hX hE ok_Model_span (nx := 24) rfl rfl ⟨Nat.le_of_ble_eq_true rfl, Nat.le_of_ble_eq_true rfl⟩
  · refine kx_go 4 (pc' := 12) (lv' := [.ref 88, .int x1, .int x2]) (st' := [.long (Int64.ofNat 1), .long (Int64.ofNat 0), .long (x2.toInt64)]) hX ok_Model_span rfl ?_
    refine kx_S (as := [.long (x2.toInt64), .long (Int64.ofNat 0), .long (Int64.ofNat 1)]) hX ok_Model_span (nx := 15) rfl l_Model_66 (fun _ => s_Model_in (G := G) (d := 0) (Nat.le_refl _) C I (x2.toInt64) (Int64.ofNat 0) (Int64.ofNat 1) _ rfl) (by omega) rfl (rest := []) rfl (Nat.le_of_ble_eq_true rfl) ⟨Nat.le_of_ble_eq_true rfl, Nat.le_of_ble_eq_true rfl⟩ ?_
    show _ → kW G X m_Model_span C I 0 0 15 [.ref 88, .int x1, .int x2] [.int (M_Model_in (x2.toInt64) (Int64.ofNat 0) (Int64.ofNat 1))]
    refine kx_go 1 (pc' := if (M_Model_in (x2.toInt64) (Int64.ofNat 0) (Int64.ofNat 1)) = (0 : Int32) then 18 else 24) (lv' := [.ref 88, .int x1, .int x2]) (st' := []) hX ok_Model_span rfl ?_
    refine kx_ite (fun c3 => ?_) (fun c3 => ?_)
    · refine kx_go 2 (pc' := 20) (lv' := [.ref 88, .int x1, .int x2]) (st' := [.int (1 : Int32), .ref 88]) hX ok_Model_span rfl ?_
      refine kx_bind (fun p4 hp4 => ?_)
      refine kx_V (r := 88) (as := [.int (1 : Int32)]) (by decide) hX ok_Model_span (nx := 23) rfl l_Model_129 (by decide) rfl (fun _ => s_Model_finds (G := G) (d := 0) (Nat.le_refl _) C I (1 : Int32) p4 hp4) (by omega) rfl (rest := []) rfl (Nat.le_of_ble_eq_true rfl) ⟨Nat.le_of_ble_eq_true rfl, Nat.le_of_ble_eq_true rfl⟩ ?_
      show _ → kW G X m_Model_span C p4.2 0 0 23 [.ref 88, .int x1, .int x2] [.int p4.1]
      intro h; have h := Option.some.inj h; subst h
      exact kx_iret hX hE ok_Model_span (nx := 24) rfl rfl ⟨Nat.le_of_ble_eq_true rfl, Nat.le_of_ble_eq_true rfl⟩
    · refine kx_go 1 (pc' := 25) (lv' := [.ref 88, .int x1, .int x2]) (st' := [.ref 88]) hX ok_Model_span rfl ?_
      refine kx_bind (fun p5 hp5 => ?_)
      refine kx_V (r := 88) (as := []) (by decide) hX ok_Model_span (nx := 28) rfl l_Model_231 (by decide) rfl (fun _ => s_Model_findYears (G := G) (d := 52) (Nat.le_refl _) C I  p5 hp5) (by omega) rfl (rest := []) rfl (Nat.le_of_ble_eq_true rfl) ⟨Nat.le_of_ble_eq_true rfl, Nat.le_of_ble_eq_true rfl⟩ ?_
      show _ → kW G X m_Model_span C p5 0 0 28 [.ref 88, .int x1, .int x2] []
      refine kx_go 1 (pc' := 29) (lv' := [.ref 88, .int x1, .int x2]) (st' := [.ref 88]) hX ok_Model_span rfl ?_
      refine kx_bind (fun p6 hp6 => ?_)
      refine kx_V (r := 88) (as := []) (by decide) hX ok_Model_span (nx := 32) rfl l_Model_234 (by decide) rfl (fun _ => s_Model_pushes (G := G) (d := 1) (Nat.le_refl _) C p5  p6 hp6) (by omega) rfl (rest := []) rfl (Nat.le_of_ble_eq_true rfl) ⟨Nat.le_of_ble_eq_true rfl, Nat.le_of_ble_eq_true rfl⟩ ?_
      show _ → kW G X m_Model_span C p6.2 0 0 32 [.ref 88, .int x1, .int x2] [.int p6.1]
      refine kx_go 1 (pc' := if p6.1 = (0 : Int32) then 35 else 43) (lv' := [.ref 88, .int x1, .int x2]) (st' := []) hX ok_Model_span rfl ?_
      refine kx_ite (fun c7 => ?_) (fun c7 => ?_)
      · refine kx_go 2 (pc' := 37) (lv' := [.ref 88, .int x1, .int x2]) (st' := [.int (2 : Int32), .ref 88]) hX ok_Model_span rfl ?_
        refine kx_bind (fun p8 hp8 => ?_)
        refine kx_V (r := 88) (as := [.int (2 : Int32)]) (by decide) hX ok_Model_span (nx := 40) rfl l_Model_129 (by decide) rfl (fun _ => s_Model_finds (G := G) (d := 0) (Nat.le_refl _) C p6.2 (2 : Int32) p8 hp8) (by omega) rfl (rest := []) rfl (Nat.le_of_ble_eq_true rfl) ⟨Nat.le_of_ble_eq_true rfl, Nat.le_of_ble_eq_true rfl⟩ ?_
        show _ → kW G X m_Model_span C p8.2 0 0 40 [.ref 88, .int x1, .int x2] [.int p8.1]
        refine kx_go 1 (pc' := 62) (lv' := [.ref 88, .int x1, .int x2]) (st' := [.int p8.1]) hX ok_Model_span rfl ?_
        intro h; have h := Option.some.inj h; subst h
        exact kx_iret hX hE ok_Model_span (nx := 63) rfl rfl ⟨Nat.le_of_ble_eq_true rfl, Nat.le_of_ble_eq_true rfl⟩
      · refine kx_go 2 (pc' := if x2 = (0 : Int32) then 47 else 56) (lv' := [.ref 88, .int x1, .int x2]) (st' := []) hX ok_Model_span rfl ?_
        refine kx_ite (fun c9 => ?_) (fun c9 => ?_)
        · refine kx_go 1 (pc' := 48) (lv' := [.ref 88, .int x1, .int x2]) (st' := [.ref 88]) hX ok_Model_span rfl ?_
          refine kx_getp hX ok_Model_span rfl (q := 98) (nx := 51) rfl ?_
          refine kx_go 1 (pc' := 52) (lv' := [.ref 88, .int x1, .int x2]) (st' := [.int x1, .ref 98]) hX ok_Model_span rfl ?_
          refine kx_iald hX ok_Model_span (w := 8) (nx := 53) rfl (fun b10 => ?_)
          refine kx_go 1 (pc' := 62) (lv' := [.ref 88, .int x1, .int x2]) (st' := [.int (p6.2 98 x1.toNatClampNeg)]) hX ok_Model_span rfl ?_
          intro h; have h := Option.some.inj h; subst h
          exact kx_iret hX hE ok_Model_span (nx := 63) rfl rfl ⟨Nat.le_of_ble_eq_true rfl, Nat.le_of_ble_eq_true rfl⟩
        · refine kx_go 1 (pc' := 57) (lv' := [.ref 88, .int x1, .int x2]) (st' := [.ref 88]) hX ok_Model_span rfl ?_
          refine kx_getp hX ok_Model_span rfl (q := 99) (nx := 60) rfl ?_
          refine kx_go 1 (pc' := 61) (lv' := [.ref 88, .int x1, .int x2]) (st' := [.int x1, .ref 99]) hX ok_Model_span rfl ?_
          refine kx_iald hX ok_Model_span (w := 8) (nx := 62) rfl (fun b11 => ?_)
          intro h; have h := Option.some.inj h; subst h
          exact kx_iret hX hE ok_Model_span (nx := 63) rfl rfl ⟨Nat.le_of_ble_eq_true rfl, Nat.le_of_ble_eq_true rfl⟩
def L_Model_widthBy_32 (I : HI) : Nat → Int32 → Int32 → Option (Int32)
  | 0, _, _ => none
  | f + 1, x3, x4 => if (I 89 0) ≤ x4 then (some x3) else (grd (bnd x4 8) (L_Model_widthBy_32 I f (x3 + ((I 99 x4.toNatClampNeg) - (I 98 x4.toNatClampNeg))) (x4 + (1 : Int32))))
theorem s_L_Model_widthBy_32 {G : xG} {X : xC} {d : Nat} (hd : 53 ≤ d) (hX : xAmb G X m_Model_widthBy d 0 0)  (C : HC) (I : HI) : ∀ (f : Nat) (x3 : Int32) (x4 : Int32) (r : Int32), (kW G X m_Model_widthBy C I 0 0 67 [.null, .null, .null, .int r, .null] []) → L_Model_widthBy_32 I f x3 x4 = some r → kW G X m_Model_widthBy C I 0 0 32 [.ref 88, .null, .null, .int x3, .int x4] [] := by
  intro f
  induction f with
  | zero => intro x3 x4 r hk h; rw [L_Model_widthBy_32] at h; cases h
  | succ f ih =>
    intro x3 x4 r hk
    rw [L_Model_widthBy_32]
    refine kx_go 2 (pc' := 35) (lv' := [.ref 88, .null, .null, .int x3, .int x4]) (st' := [.ref 88, .int x4]) hX ok_Model_widthBy rfl ?_
    refine kx_getp hX ok_Model_widthBy rfl (q := 89) (nx := 38) rfl ?_
    refine kx_go 1 (pc' := 39) (lv' := [.ref 88, .null, .null, .int x3, .int x4]) (st' := [.int (0 : Int32), .ref 89, .int x4]) hX ok_Model_widthBy rfl ?_
    refine kx_ialdc hX ok_Model_widthBy (w := 270) (nx := 40) rfl rfl (k := 0) rfl ?_
    refine kx_go 1 (pc' := if (I 89 0) ≤ x4 then 67 else 43) (lv' := [.ref 88, .null, .null, .int x3, .int x4]) (st' := []) hX ok_Model_widthBy rfl ?_
    refine kx_ite (fun c1 => ?_) (fun c1 => ?_)
    · refine kx_weak (lv' := [.null, .null, .null, .int x3, .null]) (by simp [xsub]) ?_
      intro h; have h := Option.some.inj h; subst h
      exact hk
    · refine kx_go 2 (pc' := 45) (lv' := [.ref 88, .null, .null, .int x3, .int x4]) (st' := [.ref 88, .int x3]) hX ok_Model_widthBy rfl ?_
      refine kx_getp hX ok_Model_widthBy rfl (q := 99) (nx := 48) rfl ?_
      refine kx_go 1 (pc' := 50) (lv' := [.ref 88, .null, .null, .int x3, .int x4]) (st' := [.int x4, .ref 99, .int x3]) hX ok_Model_widthBy rfl ?_
      refine kx_iald hX ok_Model_widthBy (w := 8) (nx := 51) rfl (fun b2 => ?_)
      refine kx_go 1 (pc' := 52) (lv' := [.ref 88, .null, .null, .int x3, .int x4]) (st' := [.ref 88, .int (I 99 x4.toNatClampNeg), .int x3]) hX ok_Model_widthBy rfl ?_
      refine kx_getp hX ok_Model_widthBy rfl (q := 98) (nx := 55) rfl ?_
      refine kx_go 1 (pc' := 57) (lv' := [.ref 88, .null, .null, .int x3, .int x4]) (st' := [.int x4, .ref 98, .int (I 99 x4.toNatClampNeg), .int x3]) hX ok_Model_widthBy rfl ?_
      refine kx_ialdc hX ok_Model_widthBy (w := 8) (nx := 58) rfl b2 (k := x4.toNatClampNeg) rfl ?_
      refine kx_go 5 (pc' := 32) (lv' := [.ref 88, .null, .null, .int (x3 + ((I 99 x4.toNatClampNeg) - (I 98 x4.toNatClampNeg))), .int (x4 + (1 : Int32))]) (st' := []) hX ok_Model_widthBy rfl ?_
      exact fun h => ih (x3 + ((I 99 x4.toNatClampNeg) - (I 98 x4.toNatClampNeg))) (x4 + (1 : Int32)) r hk h
def M_Model_widthBy (I : HI) (x1 : Int32) (x2 : Int32) : Option (Int32 × HI) := Option.bind (M_Model_findYears I) fun p1 => grd (bnd x1 8) (lt (xu p1 98 x1.toNatClampNeg x2) fun J3 => lt (xu J3 99 x1.toNatClampNeg x2) fun J4 => Option.bind (M_Model_pushes J4) fun p5 => if p5.1 = (0 : Int32) then (some ((-1 : Int32), p5.2)) else (Option.bind (L_Model_widthBy_32 p5.2 1000 (0 : Int32) (0 : Int32)) fun p7 => some (p7, p5.2)))
theorem s_Model_widthBy {G : xG} {d : Nat} (hd : 53 ≤ d) (C : HC) (I : HI) (x1 : Int32) (x2 : Int32)  (r : Int32 × HI) : M_Model_widthBy I x1 x2 = some r → kM G d m_Model_widthBy [.ref 88, .int x1, .int x2] C I 0 0 (some (.int r.1)) C r.2 := by
  unfold M_Model_widthBy
  refine kM.of (by decide +kernel) (Nat.le_of_ble_eq_true rfl) (lv := [.ref 88, .int x1, .int x2, .null, .null]) rfl (fun X hX hE => ?_)
  refine kx_go 1 (pc' := 1) (lv' := [.ref 88, .int x1, .int x2, .null, .null]) (st' := [.ref 88]) hX ok_Model_widthBy rfl ?_
  refine kx_bind (fun p1 hp1 => ?_)
  refine kx_V (r := 88) (as := []) (by decide) hX ok_Model_widthBy (nx := 4) rfl l_Model_231 (by decide) rfl (fun _ => s_Model_findYears (G := G) (d := 52) (Nat.le_refl _) C I  p1 hp1) (by omega) rfl (rest := []) rfl (Nat.le_of_ble_eq_true rfl) ⟨Nat.le_of_ble_eq_true rfl, Nat.le_of_ble_eq_true rfl⟩ ?_
  show _ → kW G X m_Model_widthBy C p1 0 0 4 [.ref 88, .int x1, .int x2, .null, .null] []
  refine kx_go 1 (pc' := 5) (lv' := [.ref 88, .int x1, .int x2, .null, .null]) (st' := [.ref 88]) hX ok_Model_widthBy rfl ?_
  refine kx_getp hX ok_Model_widthBy rfl (q := 98) (nx := 8) rfl ?_
  refine kx_go 2 (pc' := 10) (lv' := [.ref 88, .int x1, .int x2, .null, .null]) (st' := [.int x2, .int x1, .ref 98]) hX ok_Model_widthBy rfl ?_
  refine kx_iast hX ok_Model_widthBy (w := 8) (nx := 11) rfl (fun b2 => ?_)
  refine kx_lt (Q := fun J3 => kW G X m_Model_widthBy C J3 0 0 11 [.ref 88, .int x1, .int x2, .null, .null] []) (fun J3 eJ3 => ?_)
  refine kx_go 1 (pc' := 12) (lv' := [.ref 88, .int x1, .int x2, .null, .null]) (st' := [.ref 88]) hX ok_Model_widthBy rfl ?_
  refine kx_getp hX ok_Model_widthBy rfl (q := 99) (nx := 15) rfl ?_
  refine kx_go 2 (pc' := 17) (lv' := [.ref 88, .int x1, .int x2, .null, .null]) (st' := [.int x2, .int x1, .ref 99]) hX ok_Model_widthBy rfl ?_
  refine kx_iastc hX ok_Model_widthBy (w := 8) (nx := 18) rfl b2 (k := x1.toNatClampNeg) rfl ?_
  refine kx_lt (Q := fun J4 => kW G X m_Model_widthBy C J4 0 0 18 [.ref 88, .int x1, .int x2, .null, .null] []) (fun J4 eJ4 => ?_)
  refine kx_go 1 (pc' := 19) (lv' := [.ref 88, .int x1, .int x2, .null, .null]) (st' := [.ref 88]) hX ok_Model_widthBy rfl ?_
  refine kx_bind (fun p5 hp5 => ?_)
  refine kx_V (r := 88) (as := []) (by decide) hX ok_Model_widthBy (nx := 22) rfl l_Model_234 (by decide) rfl (fun _ => s_Model_pushes (G := G) (d := 1) (Nat.le_refl _) C J4  p5 hp5) (by omega) rfl (rest := []) rfl (Nat.le_of_ble_eq_true rfl) ⟨Nat.le_of_ble_eq_true rfl, Nat.le_of_ble_eq_true rfl⟩ ?_
  show _ → kW G X m_Model_widthBy C p5.2 0 0 22 [.ref 88, .int x1, .int x2, .null, .null] [.int p5.1]
  refine kx_go 1 (pc' := if p5.1 = (0 : Int32) then 25 else 27) (lv' := [.ref 88, .int x1, .int x2, .null, .null]) (st' := []) hX ok_Model_widthBy rfl ?_
  refine kx_ite (fun c6 => ?_) (fun c6 => ?_)
  · refine kx_go 1 (pc' := 26) (lv' := [.ref 88, .int x1, .int x2, .null, .null]) (st' := [.int (-1 : Int32)]) hX ok_Model_widthBy rfl ?_
    intro h; have h := Option.some.inj h; subst h
    exact kx_iret hX hE ok_Model_widthBy (nx := 27) rfl rfl ⟨Nat.le_of_ble_eq_true rfl, Nat.le_of_ble_eq_true rfl⟩
  · refine kx_go 4 (pc' := 32) (lv' := [.ref 88, .int x1, .int x2, .int (0 : Int32), .int (0 : Int32)]) (st' := []) hX ok_Model_widthBy rfl ?_
    refine kx_weak (lv' := [.ref 88, .null, .null, .int (0 : Int32), .int (0 : Int32)]) (by simp [xsub]) ?_
    refine kx_bind (fun p7 hp7 => ?_)
    refine kx_via (fun hk => s_L_Model_widthBy_32 (G := G) (X := X) (by omega) hX C p5.2 1000 (0 : Int32) (0 : Int32) p7 hk hp7) ?_
    refine kx_go 1 (pc' := 68) (lv' := [.null, .null, .null, .int p7, .null]) (st' := [.int p7]) hX ok_Model_widthBy rfl ?_
    intro h; have h := Option.some.inj h; subst h
    exact kx_iret hX hE ok_Model_widthBy (nx := 69) rfl rfl ⟨Nat.le_of_ble_eq_true rfl, Nat.le_of_ble_eq_true rfl⟩
def M_Model_test (I : HI) (x1 : Int32) (x2 : Int32) : Option (Int32 × HI) := if (M_Model_isStroke I x1) = (0 : Int32) then (Option.bind (M_Model_finds I (1 : Int32)) fun p2 => some (p2.1, p2.2)) else (if (M_Model_in (x2.toInt64) (Int64.ofNat 0) (Int64.ofNat 9999)) = (0 : Int32) then (Option.bind (M_Model_finds I (1 : Int32)) fun p4 => some (p4.1, p4.2)) else (Option.bind (M_Model_widthBy I x1 x2) fun p5 => if (0 : Int32) ≤ p5.1 then (some (p5.1, p5.2)) else (Option.bind (M_Model_finds p5.2 (2 : Int32)) fun p7 => some (p7.1, p7.2))))
theorem s_Model_test {G : xG} {d : Nat} (hd : 54 ≤ d) (C : HC) (I : HI) (x1 : Int32) (x2 : Int32)  (r : Int32 × HI) : M_Model_test I x1 x2 = some r → kM G d m_Model_test [.ref 88, .int x1, .int x2] C I 0 0 (some (.int r.1)) C r.2 := by
  unfold M_Model_test
  refine kM.of (by decide +kernel) (Nat.le_of_ble_eq_true rfl) (lv := [.ref 88, .int x1, .int x2, .null]) rfl (fun X hX hE => ?_)
  refine kx_go 2 (pc' := 2) (lv' := [.ref 88, .int x1, .int x2, .null]) (st' := [.int x1, .ref 88]) hX ok_Model_test rfl ?_
  refine kx_V (r := 88) (as := [.int x1]) (by decide) hX ok_Model_test (nx := 5) rfl l_Model_165 (by decide) rfl (fun _ => s_Model_isStroke (G := G) (d := 1) (Nat.le_refl _) C I x1 _ rfl) (by omega) rfl (rest := []) rfl (Nat.le_of_ble_eq_true rfl) ⟨Nat.le_of_ble_eq_true rfl, Nat.le_of_ble_eq_true rfl⟩ ?_
  show _ → kW G X m_Model_test C I 0 0 5 [.ref 88, .int x1, .int x2, .null] [.int (M_Model_isStroke I x1)]
  refine kx_go 1 (pc' := if (M_Model_isStroke I x1) = (0 : Int32) then 20 else 8) (lv' := [.ref 88, .int x1, .int x2, .null]) (st' := []) hX ok_Model_test rfl ?_
  refine kx_ite (fun c1 => ?_) (fun c1 => ?_)
  · refine kx_go 2 (pc' := 22) (lv' := [.ref 88, .int x1, .int x2, .null]) (st' := [.int (1 : Int32), .ref 88]) hX ok_Model_test rfl ?_
    refine kx_bind (fun p2 hp2 => ?_)
    refine kx_V (r := 88) (as := [.int (1 : Int32)]) (by decide) hX ok_Model_test (nx := 25) rfl l_Model_129 (by decide) rfl (fun _ => s_Model_finds (G := G) (d := 0) (Nat.le_refl _) C I (1 : Int32) p2 hp2) (by omega) rfl (rest := []) rfl (Nat.le_of_ble_eq_true rfl) ⟨Nat.le_of_ble_eq_true rfl, Nat.le_of_ble_eq_true rfl⟩ ?_
    show _ → kW G X m_Model_test C p2.2 0 0 25 [.ref 88, .int x1, .int x2, .null] [.int p2.1]
    intro h; have h := Option.some.inj h; subst h
    exact kx_iret hX hE ok_Model_test (nx := 26) rfl rfl ⟨Nat.le_of_ble_eq_true rfl, Nat.le_of_ble_eq_true rfl⟩
  · refine kx_go 4 (pc' := 14) (lv' := [.ref 88, .int x1, .int x2, .null]) (st' := [.long (Int64.ofNat 9999), .long (Int64.ofNat 0), .long (x2.toInt64)]) hX ok_Model_test rfl ?_
    refine kx_S (as := [.long (x2.toInt64), .long (Int64.ofNat 0), .long (Int64.ofNat 9999)]) hX ok_Model_test (nx := 17) rfl l_Model_66 (fun _ => s_Model_in (G := G) (d := 0) (Nat.le_refl _) C I (x2.toInt64) (Int64.ofNat 0) (Int64.ofNat 9999) _ rfl) (by omega) rfl (rest := []) rfl (Nat.le_of_ble_eq_true rfl) ⟨Nat.le_of_ble_eq_true rfl, Nat.le_of_ble_eq_true rfl⟩ ?_
    show _ → kW G X m_Model_test C I 0 0 17 [.ref 88, .int x1, .int x2, .null] [.int (M_Model_in (x2.toInt64) (Int64.ofNat 0) (Int64.ofNat 9999))]
    refine kx_go 1 (pc' := if (M_Model_in (x2.toInt64) (Int64.ofNat 0) (Int64.ofNat 9999)) = (0 : Int32) then 20 else 26) (lv' := [.ref 88, .int x1, .int x2, .null]) (st' := []) hX ok_Model_test rfl ?_
    refine kx_ite (fun c3 => ?_) (fun c3 => ?_)
    · refine kx_go 2 (pc' := 22) (lv' := [.ref 88, .int x1, .int x2, .null]) (st' := [.int (1 : Int32), .ref 88]) hX ok_Model_test rfl ?_
      refine kx_bind (fun p4 hp4 => ?_)
      refine kx_V (r := 88) (as := [.int (1 : Int32)]) (by decide) hX ok_Model_test (nx := 25) rfl l_Model_129 (by decide) rfl (fun _ => s_Model_finds (G := G) (d := 0) (Nat.le_refl _) C I (1 : Int32) p4 hp4) (by omega) rfl (rest := []) rfl (Nat.le_of_ble_eq_true rfl) ⟨Nat.le_of_ble_eq_true rfl, Nat.le_of_ble_eq_true rfl⟩ ?_
      show _ → kW G X m_Model_test C p4.2 0 0 25 [.ref 88, .int x1, .int x2, .null] [.int p4.1]
      intro h; have h := Option.some.inj h; subst h
      exact kx_iret hX hE ok_Model_test (nx := 26) rfl rfl ⟨Nat.le_of_ble_eq_true rfl, Nat.le_of_ble_eq_true rfl⟩
    · refine kx_go 3 (pc' := 29) (lv' := [.ref 88, .int x1, .int x2, .null]) (st' := [.int x2, .int x1, .ref 88]) hX ok_Model_test rfl ?_
      refine kx_bind (fun p5 hp5 => ?_)
      refine kx_V (r := 88) (as := [.int x1, .int x2]) (by decide) hX ok_Model_test (nx := 32) rfl l_Model_240 (by decide) rfl (fun _ => s_Model_widthBy (G := G) (d := 53) (Nat.le_refl _) C I x1 x2 p5 hp5) (by omega) rfl (rest := []) rfl (Nat.le_of_ble_eq_true rfl) ⟨Nat.le_of_ble_eq_true rfl, Nat.le_of_ble_eq_true rfl⟩ ?_
      show _ → kW G X m_Model_test C p5.2 0 0 32 [.ref 88, .int x1, .int x2, .null] [.int p5.1]
      refine kx_go 3 (pc' := if (0 : Int32) ≤ p5.1 then 45 else 37) (lv' := [.ref 88, .int x1, .int x2, .int p5.1]) (st' := []) hX ok_Model_test rfl ?_
      refine kx_ite (fun c6 => ?_) (fun c6 => ?_)
      · refine kx_go 1 (pc' := 46) (lv' := [.ref 88, .int x1, .int x2, .int p5.1]) (st' := [.int p5.1]) hX ok_Model_test rfl ?_
        intro h; have h := Option.some.inj h; subst h
        exact kx_iret hX hE ok_Model_test (nx := 47) rfl rfl ⟨Nat.le_of_ble_eq_true rfl, Nat.le_of_ble_eq_true rfl⟩
      · refine kx_go 2 (pc' := 39) (lv' := [.ref 88, .int x1, .int x2, .int p5.1]) (st' := [.int (2 : Int32), .ref 88]) hX ok_Model_test rfl ?_
        refine kx_bind (fun p7 hp7 => ?_)
        refine kx_V (r := 88) (as := [.int (2 : Int32)]) (by decide) hX ok_Model_test (nx := 42) rfl l_Model_129 (by decide) rfl (fun _ => s_Model_finds (G := G) (d := 0) (Nat.le_refl _) C p5.2 (2 : Int32) p7 hp7) (by omega) rfl (rest := []) rfl (Nat.le_of_ble_eq_true rfl) ⟨Nat.le_of_ble_eq_true rfl, Nat.le_of_ble_eq_true rfl⟩ ?_
        show _ → kW G X m_Model_test C p7.2 0 0 42 [.ref 88, .int x1, .int x2, .int p5.1] [.int p7.1]
        refine kx_go 1 (pc' := 46) (lv' := [.ref 88, .int x1, .int x2, .int p5.1]) (st' := [.int p7.1]) hX ok_Model_test rfl ?_
        intro h; have h := Option.some.inj h; subst h
        exact kx_iret hX hE ok_Model_test (nx := 47) rfl rfl ⟨Nat.le_of_ble_eq_true rfl, Nat.le_of_ble_eq_true rfl⟩
def M_Model_worstOf (I : HI) (x1 : Int32) : Option (Int32 × HI) := Option.bind (M_Model_findYears I) fun p1 => Option.bind (M_Model_pushes p1) fun p2 => grd (bnd x1 8) (Option.bind (M_Model_widthBy p2.2 x1 (p2.2 98 x1.toNatClampNeg)) fun p4 => Option.bind (M_Model_widthBy p4.2 x1 (((p2.2 98 x1.toNatClampNeg) + (p2.2 99 x1.toNatClampNeg)) / (2 : Int32))) fun p5 => Option.bind (M_Model_widthBy p5.2 x1 (p2.2 99 x1.toNatClampNeg)) fun p6 => if p4.1 ≤ p5.1 then (if p5.1 ≤ p6.1 then (some (p6.1, p6.2)) else (some (p5.1, p6.2))) else (if p4.1 ≤ p6.1 then (some (p6.1, p6.2)) else (some (p4.1, p6.2))))
theorem s_Model_worstOf {G : xG} {d : Nat} (hd : 54 ≤ d) (C : HC) (I : HI) (x1 : Int32)  (r : Int32 × HI) : M_Model_worstOf I x1 = some r → kM G d m_Model_worstOf [.ref 88, .int x1] C I 0 0 (some (.int r.1)) C r.2 := by
  unfold M_Model_worstOf
  refine kM.of (by decide +kernel) (Nat.le_of_ble_eq_true rfl) (lv := [.ref 88, .int x1, .null, .null, .null, .null, .null, .null]) rfl (fun X hX hE => ?_)
  refine kx_go 1 (pc' := 1) (lv' := [.ref 88, .int x1, .null, .null, .null, .null, .null, .null]) (st' := [.ref 88]) hX ok_Model_worstOf rfl ?_
  refine kx_bind (fun p1 hp1 => ?_)
  refine kx_V (r := 88) (as := []) (by decide) hX ok_Model_worstOf (nx := 4) rfl l_Model_231 (by decide) rfl (fun _ => s_Model_findYears (G := G) (d := 52) (Nat.le_refl _) C I  p1 hp1) (by omega) rfl (rest := []) rfl (Nat.le_of_ble_eq_true rfl) ⟨Nat.le_of_ble_eq_true rfl, Nat.le_of_ble_eq_true rfl⟩ ?_
  show _ → kW G X m_Model_worstOf C p1 0 0 4 [.ref 88, .int x1, .null, .null, .null, .null, .null, .null] []
  refine kx_go 1 (pc' := 5) (lv' := [.ref 88, .int x1, .null, .null, .null, .null, .null, .null]) (st' := [.ref 88]) hX ok_Model_worstOf rfl ?_
  refine kx_bind (fun p2 hp2 => ?_)
  refine kx_V (r := 88) (as := []) (by decide) hX ok_Model_worstOf (nx := 8) rfl l_Model_234 (by decide) rfl (fun _ => s_Model_pushes (G := G) (d := 1) (Nat.le_refl _) C p1  p2 hp2) (by omega) rfl (rest := []) rfl (Nat.le_of_ble_eq_true rfl) ⟨Nat.le_of_ble_eq_true rfl, Nat.le_of_ble_eq_true rfl⟩ ?_
  show _ → kW G X m_Model_worstOf C p2.2 0 0 8 [.ref 88, .int x1, .null, .null, .null, .null, .null, .null] [.int p2.1]
  refine kx_go 2 (pc' := 10) (lv' := [.ref 88, .int x1, .int p2.1, .null, .null, .null, .null, .null]) (st' := [.ref 88]) hX ok_Model_worstOf rfl ?_
  refine kx_getp hX ok_Model_worstOf rfl (q := 98) (nx := 13) rfl ?_
  refine kx_go 1 (pc' := 14) (lv' := [.ref 88, .int x1, .int p2.1, .null, .null, .null, .null, .null]) (st' := [.int x1, .ref 98]) hX ok_Model_worstOf rfl ?_
  refine kx_iald hX ok_Model_worstOf (w := 8) (nx := 15) rfl (fun b3 => ?_)
  refine kx_go 2 (pc' := 17) (lv' := [.ref 88, .int x1, .int p2.1, .int (p2.2 98 x1.toNatClampNeg), .null, .null, .null, .null]) (st' := [.ref 88]) hX ok_Model_worstOf rfl ?_
  refine kx_getp hX ok_Model_worstOf rfl (q := 99) (nx := 20) rfl ?_
  refine kx_go 1 (pc' := 21) (lv' := [.ref 88, .int x1, .int p2.1, .int (p2.2 98 x1.toNatClampNeg), .null, .null, .null, .null]) (st' := [.int x1, .ref 99]) hX ok_Model_worstOf rfl ?_
  refine kx_ialdc hX ok_Model_worstOf (w := 8) (nx := 22) rfl b3 (k := x1.toNatClampNeg) rfl ?_
  refine kx_go 4 (pc' := 27) (lv' := [.ref 88, .int x1, .int p2.1, .int (p2.2 98 x1.toNatClampNeg), .int (p2.2 99 x1.toNatClampNeg), .null, .null, .null]) (st' := [.int (p2.2 98 x1.toNatClampNeg), .int x1, .ref 88]) hX ok_Model_worstOf rfl ?_
  refine kx_bind (fun p4 hp4 => ?_)
  refine kx_V (r := 88) (as := [.int x1, .int (p2.2 98 x1.toNatClampNeg)]) (by decide) hX ok_Model_worstOf (nx := 30) rfl l_Model_240 (by decide) rfl (fun _ => s_Model_widthBy (G := G) (d := 53) (Nat.le_refl _) C p2.2 x1 (p2.2 98 x1.toNatClampNeg) p4 hp4) (by omega) rfl (rest := []) rfl (Nat.le_of_ble_eq_true rfl) ⟨Nat.le_of_ble_eq_true rfl, Nat.le_of_ble_eq_true rfl⟩ ?_
  show _ → kW G X m_Model_worstOf C p4.2 0 0 30 [.ref 88, .int x1, .int p2.1, .int (p2.2 98 x1.toNatClampNeg), .int (p2.2 99 x1.toNatClampNeg), .null, .null, .null] [.int p4.1]
  refine kx_go 7 (pc' := 39) (lv' := [.ref 88, .int x1, .int p2.1, .int (p2.2 98 x1.toNatClampNeg), .int (p2.2 99 x1.toNatClampNeg), .int p4.1, .null, .null]) (st' := [.int (2 : Int32), .int ((p2.2 98 x1.toNatClampNeg) + (p2.2 99 x1.toNatClampNeg)), .int x1, .ref 88]) hX ok_Model_worstOf rfl ?_
  refine kx_idivc hX ok_Model_worstOf (nx := 40) rfl (by decide) ?_
  refine kx_bind (fun p5 hp5 => ?_)
  refine kx_V (r := 88) (as := [.int x1, .int (((p2.2 98 x1.toNatClampNeg) + (p2.2 99 x1.toNatClampNeg)) / (2 : Int32))]) (by decide) hX ok_Model_worstOf (nx := 43) rfl l_Model_240 (by decide) rfl (fun _ => s_Model_widthBy (G := G) (d := 53) (Nat.le_refl _) C p4.2 x1 (((p2.2 98 x1.toNatClampNeg) + (p2.2 99 x1.toNatClampNeg)) / (2 : Int32)) p5 hp5) (by omega) rfl (rest := []) rfl (Nat.le_of_ble_eq_true rfl) ⟨Nat.le_of_ble_eq_true rfl, Nat.le_of_ble_eq_true rfl⟩ ?_
  show _ → kW G X m_Model_worstOf C p5.2 0 0 43 [.ref 88, .int x1, .int p2.1, .int (p2.2 98 x1.toNatClampNeg), .int (p2.2 99 x1.toNatClampNeg), .int p4.1, .null, .null] [.int p5.1]
  refine kx_go 4 (pc' := 49) (lv' := [.ref 88, .int x1, .int p2.1, .int (p2.2 98 x1.toNatClampNeg), .int (p2.2 99 x1.toNatClampNeg), .int p4.1, .int p5.1, .null]) (st' := [.int (p2.2 99 x1.toNatClampNeg), .int x1, .ref 88]) hX ok_Model_worstOf rfl ?_
  refine kx_bind (fun p6 hp6 => ?_)
  refine kx_V (r := 88) (as := [.int x1, .int (p2.2 99 x1.toNatClampNeg)]) (by decide) hX ok_Model_worstOf (nx := 52) rfl l_Model_240 (by decide) rfl (fun _ => s_Model_widthBy (G := G) (d := 53) (Nat.le_refl _) C p5.2 x1 (p2.2 99 x1.toNatClampNeg) p6 hp6) (by omega) rfl (rest := []) rfl (Nat.le_of_ble_eq_true rfl) ⟨Nat.le_of_ble_eq_true rfl, Nat.le_of_ble_eq_true rfl⟩ ?_
  show _ → kW G X m_Model_worstOf C p6.2 0 0 52 [.ref 88, .int x1, .int p2.1, .int (p2.2 98 x1.toNatClampNeg), .int (p2.2 99 x1.toNatClampNeg), .int p4.1, .int p5.1, .null] [.int p6.1]
  refine kx_go 4 (pc' := if p4.1 ≤ p5.1 then 78 else 61) (lv' := [.ref 88, .int x1, .int p2.1, .int (p2.2 98 x1.toNatClampNeg), .int (p2.2 99 x1.toNatClampNeg), .int p4.1, .int p5.1, .int p6.1]) (st' := []) hX ok_Model_worstOf rfl ?_
  refine kx_ite (fun c7 => ?_) (fun c7 => ?_)
  · refine kx_go 3 (pc' := if p5.1 ≤ p6.1 then 90 else 85) (lv' := [.ref 88, .int x1, .int p2.1, .int (p2.2 98 x1.toNatClampNeg), .int (p2.2 99 x1.toNatClampNeg), .int p4.1, .int p5.1, .int p6.1]) (st' := []) hX ok_Model_worstOf rfl ?_
    refine kx_ite (fun c8 => ?_) (fun c8 => ?_)
    · refine kx_go 1 (pc' := 92) (lv' := [.ref 88, .int x1, .int p2.1, .int (p2.2 98 x1.toNatClampNeg), .int (p2.2 99 x1.toNatClampNeg), .int p4.1, .int p5.1, .int p6.1]) (st' := [.int p6.1]) hX ok_Model_worstOf rfl ?_
      intro h; have h := Option.some.inj h; subst h
      exact kx_iret hX hE ok_Model_worstOf (nx := 93) rfl rfl ⟨Nat.le_of_ble_eq_true rfl, Nat.le_of_ble_eq_true rfl⟩
    · refine kx_go 2 (pc' := 92) (lv' := [.ref 88, .int x1, .int p2.1, .int (p2.2 98 x1.toNatClampNeg), .int (p2.2 99 x1.toNatClampNeg), .int p4.1, .int p5.1, .int p6.1]) (st' := [.int p5.1]) hX ok_Model_worstOf rfl ?_
      intro h; have h := Option.some.inj h; subst h
      exact kx_iret hX hE ok_Model_worstOf (nx := 93) rfl rfl ⟨Nat.le_of_ble_eq_true rfl, Nat.le_of_ble_eq_true rfl⟩
  · refine kx_go 3 (pc' := if p4.1 ≤ p6.1 then 73 else 68) (lv' := [.ref 88, .int x1, .int p2.1, .int (p2.2 98 x1.toNatClampNeg), .int (p2.2 99 x1.toNatClampNeg), .int p4.1, .int p5.1, .int p6.1]) (st' := []) hX ok_Model_worstOf rfl ?_
    refine kx_ite (fun c9 => ?_) (fun c9 => ?_)
    · refine kx_go 2 (pc' := 92) (lv' := [.ref 88, .int x1, .int p2.1, .int (p2.2 98 x1.toNatClampNeg), .int (p2.2 99 x1.toNatClampNeg), .int p4.1, .int p5.1, .int p6.1]) (st' := [.int p6.1]) hX ok_Model_worstOf rfl ?_
      intro h; have h := Option.some.inj h; subst h
      exact kx_iret hX hE ok_Model_worstOf (nx := 93) rfl rfl ⟨Nat.le_of_ble_eq_true rfl, Nat.le_of_ble_eq_true rfl⟩
    · refine kx_go 2 (pc' := 92) (lv' := [.ref 88, .int x1, .int p2.1, .int (p2.2 98 x1.toNatClampNeg), .int (p2.2 99 x1.toNatClampNeg), .int p4.1, .int p5.1, .int p6.1]) (st' := [.int p4.1]) hX ok_Model_worstOf rfl ?_
      intro h; have h := Option.some.inj h; subst h
      exact kx_iret hX hE ok_Model_worstOf (nx := 93) rfl rfl ⟨Nat.le_of_ble_eq_true rfl, Nat.le_of_ble_eq_true rfl⟩
def L_Model_next_49 (x1 : Int32) : Nat → Int32 → Int32 → Int32 → HI → Option (Int32 × Int32 × HI)
  | 0, _, _, _, _ => none
  | f + 1, x2, x3, x4, I => if (I 89 0) ≤ x4 then (some (x2, x3, I)) else (Option.bind (M_Model_worstOf I x4) fun p2 => if x2 < (0 : Int32) then (L_Model_next_49 x1 f x4 p2.1 (x4 + (1 : Int32)) p2.2) else (if x3 ≤ p2.1 then (L_Model_next_49 x1 f x2 x3 (x4 + (1 : Int32)) p2.2) else (L_Model_next_49 x1 f x4 p2.1 (x4 + (1 : Int32)) p2.2)))
theorem s_L_Model_next_49 {G : xG} {X : xC} {d : Nat} (hd : 55 ≤ d) (hX : xAmb G X m_Model_next d 0 0)  (C : HC) (x1 : Int32) : ∀ (f : Nat) (x2 : Int32) (x3 : Int32) (x4 : Int32) (I : HI) (r : Int32 × Int32 × HI), (kW G X m_Model_next C r.2.2 0 0 90 [.null, .int x1, .int r.1, .int r.2.1, .null, .null] []) → L_Model_next_49 x1 f x2 x3 x4 I = some r → kW G X m_Model_next C I 0 0 49 [.ref 88, .int x1, .int x2, .int x3, .int x4, .null] [] := by
  intro f
  induction f with
  | zero => intro x2 x3 x4 I r hk h; rw [L_Model_next_49] at h; cases h
  | succ f ih =>
    intro x2 x3 x4 I r hk
    rw [L_Model_next_49]
    refine kx_go 2 (pc' := 52) (lv' := [.ref 88, .int x1, .int x2, .int x3, .int x4, .null]) (st' := [.ref 88, .int x4]) hX ok_Model_next rfl ?_
    refine kx_getp hX ok_Model_next rfl (q := 89) (nx := 55) rfl ?_
    refine kx_go 1 (pc' := 56) (lv' := [.ref 88, .int x1, .int x2, .int x3, .int x4, .null]) (st' := [.int (0 : Int32), .ref 89, .int x4]) hX ok_Model_next rfl ?_
    refine kx_ialdc hX ok_Model_next (w := 270) (nx := 57) rfl rfl (k := 0) rfl ?_
    refine kx_go 1 (pc' := if (I 89 0) ≤ x4 then 90 else 60) (lv' := [.ref 88, .int x1, .int x2, .int x3, .int x4, .null]) (st' := []) hX ok_Model_next rfl ?_
    refine kx_ite (fun c1 => ?_) (fun c1 => ?_)
    · refine kx_weak (lv' := [.null, .int x1, .int x2, .int x3, .null, .null]) (by simp [xsub]) ?_
      intro h; have h := Option.some.inj h; subst h
      exact hk
    · refine kx_go 2 (pc' := 63) (lv' := [.ref 88, .int x1, .int x2, .int x3, .int x4, .null]) (st' := [.int x4, .ref 88]) hX ok_Model_next rfl ?_
      refine kx_bind (fun p2 hp2 => ?_)
      refine kx_V (r := 88) (as := [.int x4]) (by decide) hX ok_Model_next (nx := 66) rfl l_Model_243 (by decide) rfl (fun _ => s_Model_worstOf (G := G) (d := 54) (Nat.le_refl _) C I x4 p2 hp2) (by omega) rfl (rest := []) rfl (Nat.le_of_ble_eq_true rfl) ⟨Nat.le_of_ble_eq_true rfl, Nat.le_of_ble_eq_true rfl⟩ ?_
      show _ → kW G X m_Model_next C p2.2 0 0 66 [.ref 88, .int x1, .int x2, .int x3, .int x4, .null] [.int p2.1]
      refine kx_go 3 (pc' := if x2 < (0 : Int32) then 78 else 72) (lv' := [.ref 88, .int x1, .int x2, .int x3, .int x4, .int p2.1]) (st' := []) hX ok_Model_next rfl ?_
      refine kx_ite (fun c3 => ?_) (fun c3 => ?_)
      · refine kx_go 6 (pc' := 49) (lv' := [.ref 88, .int x1, .int x4, .int p2.1, .int (x4 + (1 : Int32)), .int p2.1]) (st' := []) hX ok_Model_next rfl ?_
        refine kx_weak (lv' := [.ref 88, .int x1, .int x4, .int p2.1, .int (x4 + (1 : Int32)), .null]) (by simp [xsub]) ?_
        exact fun h => ih x4 p2.1 (x4 + (1 : Int32)) p2.2 r hk h
      · refine kx_go 3 (pc' := if x3 ≤ p2.1 then 84 else 78) (lv' := [.ref 88, .int x1, .int x2, .int x3, .int x4, .int p2.1]) (st' := []) hX ok_Model_next rfl ?_
        refine kx_ite (fun c4 => ?_) (fun c4 => ?_)
        · refine kx_go 2 (pc' := 49) (lv' := [.ref 88, .int x1, .int x2, .int x3, .int (x4 + (1 : Int32)), .int p2.1]) (st' := []) hX ok_Model_next rfl ?_
          refine kx_weak (lv' := [.ref 88, .int x1, .int x2, .int x3, .int (x4 + (1 : Int32)), .null]) (by simp [xsub]) ?_
          exact fun h => ih x2 x3 (x4 + (1 : Int32)) p2.2 r hk h
        · refine kx_go 6 (pc' := 49) (lv' := [.ref 88, .int x1, .int x4, .int p2.1, .int (x4 + (1 : Int32)), .int p2.1]) (st' := []) hX ok_Model_next rfl ?_
          refine kx_weak (lv' := [.ref 88, .int x1, .int x4, .int p2.1, .int (x4 + (1 : Int32)), .null]) (by simp [xsub]) ?_
          exact fun h => ih x4 p2.1 (x4 + (1 : Int32)) p2.2 r hk h
def M_Model_next (I : HI) (x1 : Int32) : Option (Int32 × HI) := if (M_Model_in (x1.toInt64) (Int64.ofNat 0) (Int64.ofNat 1)) = (0 : Int32) then (Option.bind (M_Model_finds I (1 : Int32)) fun p2 => some (p2.1, p2.2)) else (Option.bind (M_Model_findYears I) fun p3 => if (p3 89 0) = (0 : Int32) then (Option.bind (M_Model_finds p3 (2 : Int32)) fun p5 => some (p5.1, p5.2)) else (Option.bind (M_Model_pushes p3) fun p6 => if p6.1 = (0 : Int32) then (Option.bind (M_Model_finds p6.2 (2 : Int32)) fun p8 => some (p8.1, p8.2)) else (Option.bind (L_Model_next_49 x1 1000 (-1 : Int32) (0 : Int32) (0 : Int32) p6.2) fun p9 => if x1 = (0 : Int32) then (some (p9.1, p9.2.2)) else (some (p9.2.1, p9.2.2)))))
theorem s_Model_next {G : xG} {d : Nat} (hd : 55 ≤ d) (C : HC) (I : HI) (x1 : Int32)  (r : Int32 × HI) : M_Model_next I x1 = some r → kM G d m_Model_next [.ref 88, .int x1] C I 0 0 (some (.int r.1)) C r.2 := by
  unfold M_Model_next
  refine kM.of (by decide +kernel) (Nat.le_of_ble_eq_true rfl) (lv := [.ref 88, .int x1, .null, .null, .null, .null]) rfl (fun X hX hE => ?_)
  refine kx_go 4 (pc' := 4) (lv' := [.ref 88, .int x1, .null, .null, .null, .null]) (st' := [.long (Int64.ofNat 1), .long (Int64.ofNat 0), .long (x1.toInt64)]) hX ok_Model_next rfl ?_
  refine kx_S (as := [.long (x1.toInt64), .long (Int64.ofNat 0), .long (Int64.ofNat 1)]) hX ok_Model_next (nx := 7) rfl l_Model_66 (fun _ => s_Model_in (G := G) (d := 0) (Nat.le_refl _) C I (x1.toInt64) (Int64.ofNat 0) (Int64.ofNat 1) _ rfl) (by omega) rfl (rest := []) rfl (Nat.le_of_ble_eq_true rfl) ⟨Nat.le_of_ble_eq_true rfl, Nat.le_of_ble_eq_true rfl⟩ ?_
  show _ → kW G X m_Model_next C I 0 0 7 [.ref 88, .int x1, .null, .null, .null, .null] [.int (M_Model_in (x1.toInt64) (Int64.ofNat 0) (Int64.ofNat 1))]
  refine kx_go 1 (pc' := if (M_Model_in (x1.toInt64) (Int64.ofNat 0) (Int64.ofNat 1)) = (0 : Int32) then 10 else 16) (lv' := [.ref 88, .int x1, .null, .null, .null, .null]) (st' := []) hX ok_Model_next rfl ?_
  refine kx_ite (fun c1 => ?_) (fun c1 => ?_)
  · refine kx_go 2 (pc' := 12) (lv' := [.ref 88, .int x1, .null, .null, .null, .null]) (st' := [.int (1 : Int32), .ref 88]) hX ok_Model_next rfl ?_
    refine kx_bind (fun p2 hp2 => ?_)
    refine kx_V (r := 88) (as := [.int (1 : Int32)]) (by decide) hX ok_Model_next (nx := 15) rfl l_Model_129 (by decide) rfl (fun _ => s_Model_finds (G := G) (d := 0) (Nat.le_refl _) C I (1 : Int32) p2 hp2) (by omega) rfl (rest := []) rfl (Nat.le_of_ble_eq_true rfl) ⟨Nat.le_of_ble_eq_true rfl, Nat.le_of_ble_eq_true rfl⟩ ?_
    show _ → kW G X m_Model_next C p2.2 0 0 15 [.ref 88, .int x1, .null, .null, .null, .null] [.int p2.1]
    intro h; have h := Option.some.inj h; subst h
    exact kx_iret hX hE ok_Model_next (nx := 16) rfl rfl ⟨Nat.le_of_ble_eq_true rfl, Nat.le_of_ble_eq_true rfl⟩
  · refine kx_go 1 (pc' := 17) (lv' := [.ref 88, .int x1, .null, .null, .null, .null]) (st' := [.ref 88]) hX ok_Model_next rfl ?_
    refine kx_bind (fun p3 hp3 => ?_)
    refine kx_V (r := 88) (as := []) (by decide) hX ok_Model_next (nx := 20) rfl l_Model_231 (by decide) rfl (fun _ => s_Model_findYears (G := G) (d := 52) (Nat.le_refl _) C I  p3 hp3) (by omega) rfl (rest := []) rfl (Nat.le_of_ble_eq_true rfl) ⟨Nat.le_of_ble_eq_true rfl, Nat.le_of_ble_eq_true rfl⟩ ?_
    show _ → kW G X m_Model_next C p3 0 0 20 [.ref 88, .int x1, .null, .null, .null, .null] []
    refine kx_go 1 (pc' := 21) (lv' := [.ref 88, .int x1, .null, .null, .null, .null]) (st' := [.ref 88]) hX ok_Model_next rfl ?_
    refine kx_getp hX ok_Model_next rfl (q := 89) (nx := 24) rfl ?_
    refine kx_go 1 (pc' := 25) (lv' := [.ref 88, .int x1, .null, .null, .null, .null]) (st' := [.int (0 : Int32), .ref 89]) hX ok_Model_next rfl ?_
    refine kx_ialdc hX ok_Model_next (w := 270) (nx := 26) rfl rfl (k := 0) rfl ?_
    refine kx_go 1 (pc' := if (p3 89 0) = (0 : Int32) then 36 else 29) (lv' := [.ref 88, .int x1, .null, .null, .null, .null]) (st' := []) hX ok_Model_next rfl ?_
    refine kx_ite (fun c4 => ?_) (fun c4 => ?_)
    · refine kx_go 2 (pc' := 38) (lv' := [.ref 88, .int x1, .null, .null, .null, .null]) (st' := [.int (2 : Int32), .ref 88]) hX ok_Model_next rfl ?_
      refine kx_bind (fun p5 hp5 => ?_)
      refine kx_V (r := 88) (as := [.int (2 : Int32)]) (by decide) hX ok_Model_next (nx := 41) rfl l_Model_129 (by decide) rfl (fun _ => s_Model_finds (G := G) (d := 0) (Nat.le_refl _) C p3 (2 : Int32) p5 hp5) (by omega) rfl (rest := []) rfl (Nat.le_of_ble_eq_true rfl) ⟨Nat.le_of_ble_eq_true rfl, Nat.le_of_ble_eq_true rfl⟩ ?_
      show _ → kW G X m_Model_next C p5.2 0 0 41 [.ref 88, .int x1, .null, .null, .null, .null] [.int p5.1]
      intro h; have h := Option.some.inj h; subst h
      exact kx_iret hX hE ok_Model_next (nx := 42) rfl rfl ⟨Nat.le_of_ble_eq_true rfl, Nat.le_of_ble_eq_true rfl⟩
    · refine kx_go 1 (pc' := 30) (lv' := [.ref 88, .int x1, .null, .null, .null, .null]) (st' := [.ref 88]) hX ok_Model_next rfl ?_
      refine kx_bind (fun p6 hp6 => ?_)
      refine kx_V (r := 88) (as := []) (by decide) hX ok_Model_next (nx := 33) rfl l_Model_234 (by decide) rfl (fun _ => s_Model_pushes (G := G) (d := 1) (Nat.le_refl _) C p3  p6 hp6) (by omega) rfl (rest := []) rfl (Nat.le_of_ble_eq_true rfl) ⟨Nat.le_of_ble_eq_true rfl, Nat.le_of_ble_eq_true rfl⟩ ?_
      show _ → kW G X m_Model_next C p6.2 0 0 33 [.ref 88, .int x1, .null, .null, .null, .null] [.int p6.1]
      refine kx_go 1 (pc' := if p6.1 = (0 : Int32) then 36 else 42) (lv' := [.ref 88, .int x1, .null, .null, .null, .null]) (st' := []) hX ok_Model_next rfl ?_
      refine kx_ite (fun c7 => ?_) (fun c7 => ?_)
      · refine kx_go 2 (pc' := 38) (lv' := [.ref 88, .int x1, .null, .null, .null, .null]) (st' := [.int (2 : Int32), .ref 88]) hX ok_Model_next rfl ?_
        refine kx_bind (fun p8 hp8 => ?_)
        refine kx_V (r := 88) (as := [.int (2 : Int32)]) (by decide) hX ok_Model_next (nx := 41) rfl l_Model_129 (by decide) rfl (fun _ => s_Model_finds (G := G) (d := 0) (Nat.le_refl _) C p6.2 (2 : Int32) p8 hp8) (by omega) rfl (rest := []) rfl (Nat.le_of_ble_eq_true rfl) ⟨Nat.le_of_ble_eq_true rfl, Nat.le_of_ble_eq_true rfl⟩ ?_
        show _ → kW G X m_Model_next C p8.2 0 0 41 [.ref 88, .int x1, .null, .null, .null, .null] [.int p8.1]
        intro h; have h := Option.some.inj h; subst h
        exact kx_iret hX hE ok_Model_next (nx := 42) rfl rfl ⟨Nat.le_of_ble_eq_true rfl, Nat.le_of_ble_eq_true rfl⟩
      · refine kx_go 6 (pc' := 49) (lv' := [.ref 88, .int x1, .int (-1 : Int32), .int (0 : Int32), .int (0 : Int32), .null]) (st' := []) hX ok_Model_next rfl ?_
        refine kx_bind (fun p9 hp9 => ?_)
        refine kx_via (fun hk => s_L_Model_next_49 (G := G) (X := X) (by omega) hX C x1 1000 (-1 : Int32) (0 : Int32) (0 : Int32) p6.2 p9 hk hp9) ?_
        refine kx_go 2 (pc' := if x1 = (0 : Int32) then 94 else 98) (lv' := [.null, .int x1, .int p9.1, .int p9.2.1, .null, .null]) (st' := []) hX ok_Model_next rfl ?_
        refine kx_ite (fun c10 => ?_) (fun c10 => ?_)
        · refine kx_go 2 (pc' := 99) (lv' := [.null, .int x1, .int p9.1, .int p9.2.1, .null, .null]) (st' := [.int p9.1]) hX ok_Model_next rfl ?_
          intro h; have h := Option.some.inj h; subst h
          exact kx_iret hX hE ok_Model_next (nx := 100) rfl rfl ⟨Nat.le_of_ble_eq_true rfl, Nat.le_of_ble_eq_true rfl⟩
        · refine kx_go 1 (pc' := 99) (lv' := [.null, .int x1, .int p9.1, .int p9.2.1, .null, .null]) (st' := [.int p9.2.1]) hX ok_Model_next rfl ?_
          intro h; have h := Option.some.inj h; subst h
          exact kx_iret hX hE ok_Model_next (nx := 100) rfl rfl ⟨Nat.le_of_ble_eq_true rfl, Nat.le_of_ble_eq_true rfl⟩
def M_Model_size (x0 : Int32) : Int32 := if (0 : Int32) ≤ x0 then (x0) else ((-x0))
theorem s_Model_size {G : xG} {d : Nat} (hd : 0 ≤ d) (C : HC) (I : HI) (x0 : Int32)  (r : Int32) : M_Model_size x0 = r → kM G d m_Model_size [.int x0] C I 0 0 (some (.int r)) C I := by
  unfold M_Model_size
  refine kM.of (by decide +kernel) (Nat.le_of_ble_eq_true rfl) (lv := [.int x0]) rfl (fun X hX hE => ?_)
  refine kx_go 2 (pc' := if (0 : Int32) ≤ x0 then 9 else 4) (lv' := [.int x0]) (st' := []) hX ok_Model_size rfl ?_
  refine kx_ite (fun c1 => ?_) (fun c1 => ?_)
  · refine kx_go 1 (pc' := 10) (lv' := [.int x0]) (st' := [.int x0]) hX ok_Model_size rfl ?_
    rintro rfl
    exact kx_iret hX hE ok_Model_size (nx := 11) rfl rfl ⟨Nat.le_of_ble_eq_true rfl, Nat.le_of_ble_eq_true rfl⟩
  · refine kx_go 3 (pc' := 10) (lv' := [.int x0]) (st' := [.int (-x0)]) hX ok_Model_size rfl ?_
    rintro rfl
    exact kx_iret hX hE ok_Model_size (nx := 11) rfl rfl ⟨Nat.le_of_ble_eq_true rfl, Nat.le_of_ble_eq_true rfl⟩
def M_Model_farOf (x0 : Int32) (x1 : Int32) : Int32 := ((M_Model_size ((x0 / (6 : Int32)) - (x1 / (6 : Int32)))) + (M_Model_size ((x0 - x0 / (6 : Int32) * (6 : Int32)) - (x1 - x1 / (6 : Int32) * (6 : Int32)))))
theorem s_Model_farOf {G : xG} {d : Nat} (hd : 1 ≤ d) (C : HC) (I : HI) (x0 : Int32) (x1 : Int32)  (r : Int32) : M_Model_farOf x0 x1 = r → kM G d m_Model_farOf [.int x0, .int x1] C I 0 0 (some (.int r)) C I := by
  unfold M_Model_farOf
  refine kM.of (by decide +kernel) (Nat.le_of_ble_eq_true rfl) (lv := [.int x0, .int x1]) rfl (fun X hX hE => ?_)
  refine kx_go 2 (pc' := 3) (lv' := [.int x0, .int x1]) (st' := [.int (6 : Int32), .int x0]) hX ok_Model_farOf rfl ?_
  refine kx_idivc hX ok_Model_farOf (nx := 4) rfl (by decide) ?_
  refine kx_go 2 (pc' := 7) (lv' := [.int x0, .int x1]) (st' := [.int (6 : Int32), .int x1, .int (x0 / (6 : Int32))]) hX ok_Model_farOf rfl ?_
  refine kx_idivc hX ok_Model_farOf (nx := 8) rfl (by decide) ?_
  refine kx_go 1 (pc' := 9) (lv' := [.int x0, .int x1]) (st' := [.int ((x0 / (6 : Int32)) - (x1 / (6 : Int32)))]) hX ok_Model_farOf rfl ?_
  refine kx_S (as := [.int ((x0 / (6 : Int32)) - (x1 / (6 : Int32)))]) hX ok_Model_farOf (nx := 12) rfl l_Model_246 (fun _ => s_Model_size (G := G) (d := 0) (Nat.le_refl _) C I ((x0 / (6 : Int32)) - (x1 / (6 : Int32))) _ rfl) (by omega) rfl (rest := []) rfl (Nat.le_of_ble_eq_true rfl) ⟨Nat.le_of_ble_eq_true rfl, Nat.le_of_ble_eq_true rfl⟩ ?_
  show _ → kW G X m_Model_farOf C I 0 0 12 [.int x0, .int x1] [.int (M_Model_size ((x0 / (6 : Int32)) - (x1 / (6 : Int32))))]
  refine kx_go 2 (pc' := 15) (lv' := [.int x0, .int x1]) (st' := [.int (6 : Int32), .int x0, .int (M_Model_size ((x0 / (6 : Int32)) - (x1 / (6 : Int32))))]) hX ok_Model_farOf rfl ?_
  refine kx_iremc hX ok_Model_farOf (nx := 16) rfl (by decide) ?_
  refine kx_go 2 (pc' := 19) (lv' := [.int x0, .int x1]) (st' := [.int (6 : Int32), .int x1, .int (x0 - x0 / (6 : Int32) * (6 : Int32)), .int (M_Model_size ((x0 / (6 : Int32)) - (x1 / (6 : Int32))))]) hX ok_Model_farOf rfl ?_
  refine kx_iremc hX ok_Model_farOf (nx := 20) rfl (by decide) ?_
  refine kx_go 1 (pc' := 21) (lv' := [.int x0, .int x1]) (st' := [.int ((x0 - x0 / (6 : Int32) * (6 : Int32)) - (x1 - x1 / (6 : Int32) * (6 : Int32))), .int (M_Model_size ((x0 / (6 : Int32)) - (x1 / (6 : Int32))))]) hX ok_Model_farOf rfl ?_
  refine kx_S (as := [.int ((x0 - x0 / (6 : Int32) * (6 : Int32)) - (x1 - x1 / (6 : Int32) * (6 : Int32)))]) hX ok_Model_farOf (nx := 24) rfl l_Model_246 (fun _ => s_Model_size (G := G) (d := 0) (Nat.le_refl _) C I ((x0 - x0 / (6 : Int32) * (6 : Int32)) - (x1 - x1 / (6 : Int32) * (6 : Int32))) _ rfl) (by omega) rfl (rest := [.int (M_Model_size ((x0 / (6 : Int32)) - (x1 / (6 : Int32))))]) rfl (Nat.le_of_ble_eq_true rfl) ⟨Nat.le_of_ble_eq_true rfl, Nat.le_of_ble_eq_true rfl⟩ ?_
  show _ → kW G X m_Model_farOf C I 0 0 24 [.int x0, .int x1] [.int (M_Model_size ((x0 - x0 / (6 : Int32) * (6 : Int32)) - (x1 - x1 / (6 : Int32) * (6 : Int32)))), .int (M_Model_size ((x0 / (6 : Int32)) - (x1 / (6 : Int32))))]
  refine kx_go 1 (pc' := 25) (lv' := [.int x0, .int x1]) (st' := [.int ((M_Model_size ((x0 / (6 : Int32)) - (x1 / (6 : Int32)))) + (M_Model_size ((x0 - x0 / (6 : Int32) * (6 : Int32)) - (x1 - x1 / (6 : Int32) * (6 : Int32)))))]) hX ok_Model_farOf rfl ?_
  rintro rfl
  exact kx_iret hX hE ok_Model_farOf (nx := 26) rfl rfl ⟨Nat.le_of_ble_eq_true rfl, Nat.le_of_ble_eq_true rfl⟩
def M_Model_gapOf (I : HI) (x1 : Int32) : Option (Int32) := Option.bind (M_Model_of I x1 (1 : Int32)) fun p1 => Option.bind (M_Model_of I x1 (0 : Int32)) fun p2 => if p2 = (1 : Int32) then (some ((1 : Int32) + (p1 / (3 : Int32)))) else (if p2 = (2 : Int32) then (some (1 : Int32)) else (if p2 = (3 : Int32) then (some (2 : Int32)) else (if p2 = (4 : Int32) then (some (0 : Int32)) else (if p2 = (5 : Int32) then (some (2 : Int32)) else (if p2 = (6 : Int32) then (some ((2 : Int32) + p1)) else (some (1 : Int32)))))))
theorem s_Model_gapOf {G : xG} {d : Nat} (hd : 1 ≤ d) (C : HC) (I : HI) (x1 : Int32)  (r : Int32) : M_Model_gapOf I x1 = some r → kM G d m_Model_gapOf [.ref 88, .int x1] C I 0 0 (some (.int r)) C I := by
  unfold M_Model_gapOf
  refine kM.of (by decide +kernel) (Nat.le_of_ble_eq_true rfl) (lv := [.ref 88, .int x1, .null]) rfl (fun X hX hE => ?_)
  refine kx_go 3 (pc' := 3) (lv' := [.ref 88, .int x1, .null]) (st' := [.int (1 : Int32), .int x1, .ref 88]) hX ok_Model_gapOf rfl ?_
  refine kx_bind (fun p1 hp1 => ?_)
  refine kx_V (r := 88) (as := [.int x1, .int (1 : Int32)]) (by decide) hX ok_Model_gapOf (nx := 6) rfl l_Model_155 (by decide) rfl (fun _ => s_Model_of (G := G) (d := 0) (Nat.le_refl _) C I x1 (1 : Int32) p1 hp1) (by omega) rfl (rest := []) rfl (Nat.le_of_ble_eq_true rfl) ⟨Nat.le_of_ble_eq_true rfl, Nat.le_of_ble_eq_true rfl⟩ ?_
  show _ → kW G X m_Model_gapOf C I 0 0 6 [.ref 88, .int x1, .null] [.int p1]
  refine kx_go 4 (pc' := 10) (lv' := [.ref 88, .int x1, .int p1]) (st' := [.int (0 : Int32), .int x1, .ref 88]) hX ok_Model_gapOf rfl ?_
  refine kx_bind (fun p2 hp2 => ?_)
  refine kx_V (r := 88) (as := [.int x1, .int (0 : Int32)]) (by decide) hX ok_Model_gapOf (nx := 13) rfl l_Model_155 (by decide) rfl (fun _ => s_Model_of (G := G) (d := 0) (Nat.le_refl _) C I x1 (0 : Int32) p2 hp2) (by omega) rfl (rest := []) rfl (Nat.le_of_ble_eq_true rfl) ⟨Nat.le_of_ble_eq_true rfl, Nat.le_of_ble_eq_true rfl⟩ ?_
  show _ → kW G X m_Model_gapOf C I 0 0 13 [.ref 88, .int x1, .int p1] [.int p2]
  refine kx_go 1 (pc' := xtsw p2 [((1 : Int32), 52), ((2 : Int32), 66), ((3 : Int32), 58), ((4 : Int32), 60), ((5 : Int32), 58), ((6 : Int32), 62)] 66) (lv' := [.ref 88, .int x1, .int p1]) (st' := []) hX ok_Model_gapOf rfl ?_
  refine kx_sw (fun c3 => ?_) (fun c3 => ?_)
  · refine kx_go 3 (pc' := 55) (lv' := [.ref 88, .int x1, .int p1]) (st' := [.int (3 : Int32), .int p1, .int (1 : Int32)]) hX ok_Model_gapOf rfl ?_
    refine kx_idivc hX ok_Model_gapOf (nx := 56) rfl (by decide) ?_
    refine kx_go 1 (pc' := 57) (lv' := [.ref 88, .int x1, .int p1]) (st' := [.int ((1 : Int32) + (p1 / (3 : Int32)))]) hX ok_Model_gapOf rfl ?_
    intro h; have h := Option.some.inj h; subst h
    exact kx_iret hX hE ok_Model_gapOf (nx := 58) rfl rfl ⟨Nat.le_of_ble_eq_true rfl, Nat.le_of_ble_eq_true rfl⟩
  · refine kx_sw (fun c4 => ?_) (fun c4 => ?_)
    · refine kx_go 1 (pc' := 67) (lv' := [.ref 88, .int x1, .int p1]) (st' := [.int (1 : Int32)]) hX ok_Model_gapOf rfl ?_
      intro h; have h := Option.some.inj h; subst h
      exact kx_iret hX hE ok_Model_gapOf (nx := 68) rfl rfl ⟨Nat.le_of_ble_eq_true rfl, Nat.le_of_ble_eq_true rfl⟩
    · refine kx_sw (fun c5 => ?_) (fun c5 => ?_)
      · refine kx_go 1 (pc' := 59) (lv' := [.ref 88, .int x1, .int p1]) (st' := [.int (2 : Int32)]) hX ok_Model_gapOf rfl ?_
        intro h; have h := Option.some.inj h; subst h
        exact kx_iret hX hE ok_Model_gapOf (nx := 60) rfl rfl ⟨Nat.le_of_ble_eq_true rfl, Nat.le_of_ble_eq_true rfl⟩
      · refine kx_sw (fun c6 => ?_) (fun c6 => ?_)
        · refine kx_go 1 (pc' := 61) (lv' := [.ref 88, .int x1, .int p1]) (st' := [.int (0 : Int32)]) hX ok_Model_gapOf rfl ?_
          intro h; have h := Option.some.inj h; subst h
          exact kx_iret hX hE ok_Model_gapOf (nx := 62) rfl rfl ⟨Nat.le_of_ble_eq_true rfl, Nat.le_of_ble_eq_true rfl⟩
        · refine kx_sw (fun c7 => ?_) (fun c7 => ?_)
          · refine kx_go 1 (pc' := 59) (lv' := [.ref 88, .int x1, .int p1]) (st' := [.int (2 : Int32)]) hX ok_Model_gapOf rfl ?_
            intro h; have h := Option.some.inj h; subst h
            exact kx_iret hX hE ok_Model_gapOf (nx := 60) rfl rfl ⟨Nat.le_of_ble_eq_true rfl, Nat.le_of_ble_eq_true rfl⟩
          · refine kx_sw (fun c8 => ?_) (fun c8 => ?_)
            · refine kx_go 3 (pc' := 65) (lv' := [.ref 88, .int x1, .int p1]) (st' := [.int ((2 : Int32) + p1)]) hX ok_Model_gapOf rfl ?_
              intro h; have h := Option.some.inj h; subst h
              exact kx_iret hX hE ok_Model_gapOf (nx := 66) rfl rfl ⟨Nat.le_of_ble_eq_true rfl, Nat.le_of_ble_eq_true rfl⟩
            · refine kx_sw0 ?_
              refine kx_go 1 (pc' := 67) (lv' := [.ref 88, .int x1, .int p1]) (st' := [.int (1 : Int32)]) hX ok_Model_gapOf rfl ?_
              intro h; have h := Option.some.inj h; subst h
              exact kx_iret hX hE ok_Model_gapOf (nx := 68) rfl rfl ⟨Nat.le_of_ble_eq_true rfl, Nat.le_of_ble_eq_true rfl⟩
def M_Model_joined (I : HI) (x1 : Int32) (x2 : Int32) : Option (Int32) := Option.bind (M_Model_stuff I x1) fun p1 => Option.bind (M_Model_stuff I x2) fun p2 => if p1 = p2 then (Option.bind (M_Model_of I x1 (3 : Int32)) fun p4 => Option.bind (M_Model_of I x2 (3 : Int32)) fun p5 => if (9 : Int32) < (M_Model_size (p4 - p5)) then (some (0 : Int32)) else (Option.bind (M_Model_of I x1 (2 : Int32)) fun p7 => Option.bind (M_Model_of I x2 (2 : Int32)) fun p8 => Option.bind (M_Model_gapOf I x1) fun p9 => Option.bind (M_Model_gapOf I x2) fun p10 => if (p9 + p10) < (M_Model_farOf p7 p8) then (some (0 : Int32)) else (some (1 : Int32)))) else (some (0 : Int32))
theorem s_Model_joined {G : xG} {d : Nat} (hd : 2 ≤ d) (C : HC) (I : HI) (x1 : Int32) (x2 : Int32)  (r : Int32) : M_Model_joined I x1 x2 = some r → kM G d m_Model_joined [.ref 88, .int x1, .int x2] C I 0 0 (some (.int r)) C I := by
  unfold M_Model_joined
  refine kM.of (by decide +kernel) (Nat.le_of_ble_eq_true rfl) (lv := [.ref 88, .int x1, .int x2]) rfl (fun X hX hE => ?_)
  refine kx_go 2 (pc' := 2) (lv' := [.ref 88, .int x1, .int x2]) (st' := [.int x1, .ref 88]) hX ok_Model_joined rfl ?_
  refine kx_bind (fun p1 hp1 => ?_)
  refine kx_V (r := 88) (as := [.int x1]) (by decide) hX ok_Model_joined (nx := 5) rfl l_Model_176 (by decide) rfl (fun _ => s_Model_stuff (G := G) (d := 1) (Nat.le_refl _) C I x1 p1 hp1) (by omega) rfl (rest := []) rfl (Nat.le_of_ble_eq_true rfl) ⟨Nat.le_of_ble_eq_true rfl, Nat.le_of_ble_eq_true rfl⟩ ?_
  show _ → kW G X m_Model_joined C I 0 0 5 [.ref 88, .int x1, .int x2] [.int p1]
  refine kx_go 2 (pc' := 7) (lv' := [.ref 88, .int x1, .int x2]) (st' := [.int x2, .ref 88, .int p1]) hX ok_Model_joined rfl ?_
  refine kx_bind (fun p2 hp2 => ?_)
  refine kx_V (r := 88) (as := [.int x2]) (by decide) hX ok_Model_joined (nx := 10) rfl l_Model_176 (by decide) rfl (fun _ => s_Model_stuff (G := G) (d := 1) (Nat.le_refl _) C I x2 p2 hp2) (by omega) rfl (rest := [.int p1]) rfl (Nat.le_of_ble_eq_true rfl) ⟨Nat.le_of_ble_eq_true rfl, Nat.le_of_ble_eq_true rfl⟩ ?_
  show _ → kW G X m_Model_joined C I 0 0 10 [.ref 88, .int x1, .int x2] [.int p2, .int p1]
  refine kx_go 1 (pc' := if p1 = p2 then 13 else 67) (lv' := [.ref 88, .int x1, .int x2]) (st' := []) hX ok_Model_joined rfl ?_
  refine kx_ite (fun c3 => ?_) (fun c3 => ?_)
  · refine kx_go 3 (pc' := 16) (lv' := [.ref 88, .int x1, .int x2]) (st' := [.int (3 : Int32), .int x1, .ref 88]) hX ok_Model_joined rfl ?_
    refine kx_bind (fun p4 hp4 => ?_)
    refine kx_V (r := 88) (as := [.int x1, .int (3 : Int32)]) (by decide) hX ok_Model_joined (nx := 19) rfl l_Model_155 (by decide) rfl (fun _ => s_Model_of (G := G) (d := 0) (Nat.le_refl _) C I x1 (3 : Int32) p4 hp4) (by omega) rfl (rest := []) rfl (Nat.le_of_ble_eq_true rfl) ⟨Nat.le_of_ble_eq_true rfl, Nat.le_of_ble_eq_true rfl⟩ ?_
    show _ → kW G X m_Model_joined C I 0 0 19 [.ref 88, .int x1, .int x2] [.int p4]
    refine kx_go 3 (pc' := 22) (lv' := [.ref 88, .int x1, .int x2]) (st' := [.int (3 : Int32), .int x2, .ref 88, .int p4]) hX ok_Model_joined rfl ?_
    refine kx_bind (fun p5 hp5 => ?_)
    refine kx_V (r := 88) (as := [.int x2, .int (3 : Int32)]) (by decide) hX ok_Model_joined (nx := 25) rfl l_Model_155 (by decide) rfl (fun _ => s_Model_of (G := G) (d := 0) (Nat.le_refl _) C I x2 (3 : Int32) p5 hp5) (by omega) rfl (rest := [.int p4]) rfl (Nat.le_of_ble_eq_true rfl) ⟨Nat.le_of_ble_eq_true rfl, Nat.le_of_ble_eq_true rfl⟩ ?_
    show _ → kW G X m_Model_joined C I 0 0 25 [.ref 88, .int x1, .int x2] [.int p5, .int p4]
    refine kx_go 1 (pc' := 26) (lv' := [.ref 88, .int x1, .int x2]) (st' := [.int (p4 - p5)]) hX ok_Model_joined rfl ?_
    refine kx_S (as := [.int (p4 - p5)]) hX ok_Model_joined (nx := 29) rfl l_Model_246 (fun _ => s_Model_size (G := G) (d := 0) (Nat.le_refl _) C I (p4 - p5) _ rfl) (by omega) rfl (rest := []) rfl (Nat.le_of_ble_eq_true rfl) ⟨Nat.le_of_ble_eq_true rfl, Nat.le_of_ble_eq_true rfl⟩ ?_
    show _ → kW G X m_Model_joined C I 0 0 29 [.ref 88, .int x1, .int x2] [.int (M_Model_size (p4 - p5))]
    refine kx_go 2 (pc' := if (9 : Int32) < (M_Model_size (p4 - p5)) then 67 else 34) (lv' := [.ref 88, .int x1, .int x2]) (st' := []) hX ok_Model_joined rfl ?_
    refine kx_ite (fun c6 => ?_) (fun c6 => ?_)
    · refine kx_go 1 (pc' := 68) (lv' := [.ref 88, .int x1, .int x2]) (st' := [.int (0 : Int32)]) hX ok_Model_joined rfl ?_
      intro h; have h := Option.some.inj h; subst h
      exact kx_zret hX hE ok_Model_joined (nx := 69) rfl rfl (Or.inl rfl) ⟨Nat.le_of_ble_eq_true rfl, Nat.le_of_ble_eq_true rfl⟩
    · refine kx_go 3 (pc' := 37) (lv' := [.ref 88, .int x1, .int x2]) (st' := [.int (2 : Int32), .int x1, .ref 88]) hX ok_Model_joined rfl ?_
      refine kx_bind (fun p7 hp7 => ?_)
      refine kx_V (r := 88) (as := [.int x1, .int (2 : Int32)]) (by decide) hX ok_Model_joined (nx := 40) rfl l_Model_155 (by decide) rfl (fun _ => s_Model_of (G := G) (d := 0) (Nat.le_refl _) C I x1 (2 : Int32) p7 hp7) (by omega) rfl (rest := []) rfl (Nat.le_of_ble_eq_true rfl) ⟨Nat.le_of_ble_eq_true rfl, Nat.le_of_ble_eq_true rfl⟩ ?_
      show _ → kW G X m_Model_joined C I 0 0 40 [.ref 88, .int x1, .int x2] [.int p7]
      refine kx_go 3 (pc' := 43) (lv' := [.ref 88, .int x1, .int x2]) (st' := [.int (2 : Int32), .int x2, .ref 88, .int p7]) hX ok_Model_joined rfl ?_
      refine kx_bind (fun p8 hp8 => ?_)
      refine kx_V (r := 88) (as := [.int x2, .int (2 : Int32)]) (by decide) hX ok_Model_joined (nx := 46) rfl l_Model_155 (by decide) rfl (fun _ => s_Model_of (G := G) (d := 0) (Nat.le_refl _) C I x2 (2 : Int32) p8 hp8) (by omega) rfl (rest := [.int p7]) rfl (Nat.le_of_ble_eq_true rfl) ⟨Nat.le_of_ble_eq_true rfl, Nat.le_of_ble_eq_true rfl⟩ ?_
      show _ → kW G X m_Model_joined C I 0 0 46 [.ref 88, .int x1, .int x2] [.int p8, .int p7]
      refine kx_S (as := [.int p7, .int p8]) hX ok_Model_joined (nx := 49) rfl l_Model_248 (fun _ => s_Model_farOf (G := G) (d := 1) (Nat.le_refl _) C I p7 p8 _ rfl) (by omega) rfl (rest := []) rfl (Nat.le_of_ble_eq_true rfl) ⟨Nat.le_of_ble_eq_true rfl, Nat.le_of_ble_eq_true rfl⟩ ?_
      show _ → kW G X m_Model_joined C I 0 0 49 [.ref 88, .int x1, .int x2] [.int (M_Model_farOf p7 p8)]
      refine kx_go 2 (pc' := 51) (lv' := [.ref 88, .int x1, .int x2]) (st' := [.int x1, .ref 88, .int (M_Model_farOf p7 p8)]) hX ok_Model_joined rfl ?_
      refine kx_bind (fun p9 hp9 => ?_)
      refine kx_V (r := 88) (as := [.int x1]) (by decide) hX ok_Model_joined (nx := 54) rfl l_Model_251 (by decide) rfl (fun _ => s_Model_gapOf (G := G) (d := 1) (Nat.le_refl _) C I x1 p9 hp9) (by omega) rfl (rest := [.int (M_Model_farOf p7 p8)]) rfl (Nat.le_of_ble_eq_true rfl) ⟨Nat.le_of_ble_eq_true rfl, Nat.le_of_ble_eq_true rfl⟩ ?_
      show _ → kW G X m_Model_joined C I 0 0 54 [.ref 88, .int x1, .int x2] [.int p9, .int (M_Model_farOf p7 p8)]
      refine kx_go 2 (pc' := 56) (lv' := [.ref 88, .int x1, .int x2]) (st' := [.int x2, .ref 88, .int p9, .int (M_Model_farOf p7 p8)]) hX ok_Model_joined rfl ?_
      refine kx_bind (fun p10 hp10 => ?_)
      refine kx_V (r := 88) (as := [.int x2]) (by decide) hX ok_Model_joined (nx := 59) rfl l_Model_251 (by decide) rfl (fun _ => s_Model_gapOf (G := G) (d := 1) (Nat.le_refl _) C I x2 p10 hp10) (by omega) rfl (rest := [.int p9, .int (M_Model_farOf p7 p8)]) rfl (Nat.le_of_ble_eq_true rfl) ⟨Nat.le_of_ble_eq_true rfl, Nat.le_of_ble_eq_true rfl⟩ ?_
      show _ → kW G X m_Model_joined C I 0 0 59 [.ref 88, .int x1, .int x2] [.int p10, .int p9, .int (M_Model_farOf p7 p8)]
      refine kx_go 2 (pc' := if (p9 + p10) < (M_Model_farOf p7 p8) then 67 else 63) (lv' := [.ref 88, .int x1, .int x2]) (st' := []) hX ok_Model_joined rfl ?_
      refine kx_ite (fun c11 => ?_) (fun c11 => ?_)
      · refine kx_go 1 (pc' := 68) (lv' := [.ref 88, .int x1, .int x2]) (st' := [.int (0 : Int32)]) hX ok_Model_joined rfl ?_
        intro h; have h := Option.some.inj h; subst h
        exact kx_zret hX hE ok_Model_joined (nx := 69) rfl rfl (Or.inl rfl) ⟨Nat.le_of_ble_eq_true rfl, Nat.le_of_ble_eq_true rfl⟩
      · refine kx_go 2 (pc' := 68) (lv' := [.ref 88, .int x1, .int x2]) (st' := [.int (1 : Int32)]) hX ok_Model_joined rfl ?_
        intro h; have h := Option.some.inj h; subst h
        exact kx_zret hX hE ok_Model_joined (nx := 69) rfl rfl (Or.inr rfl) ⟨Nat.le_of_ble_eq_true rfl, Nat.le_of_ble_eq_true rfl⟩
  · refine kx_go 1 (pc' := 68) (lv' := [.ref 88, .int x1, .int x2]) (st' := [.int (0 : Int32)]) hX ok_Model_joined rfl ?_
    intro h; have h := Option.some.inj h; subst h
    exact kx_zret hX hE ok_Model_joined (nx := 69) rfl rfl (Or.inl rfl) ⟨Nat.le_of_ble_eq_true rfl, Nat.le_of_ble_eq_true rfl⟩
def M_Model_join (I : HI) (x1 : Int32) (x2 : Int32) : Option (Int32 × HI) := if (M_Model_isStroke I x1) = (0 : Int32) then (Option.bind (M_Model_finds I (1 : Int32)) fun p2 => some (p2.1, p2.2)) else (if (M_Model_isStroke I x2) = (0 : Int32) then (Option.bind (M_Model_finds I (1 : Int32)) fun p4 => some (p4.1, p4.2)) else (if x1 = x2 then (Option.bind (M_Model_finds I (1 : Int32)) fun p6 => some (p6.1, p6.2)) else (Option.bind (M_Model_joined I x1 x2) fun p7 => if p7 = (0 : Int32) then (some ((0 : Int32), I)) else (some ((1 : Int32), I)))))
theorem s_Model_join {G : xG} {d : Nat} (hd : 3 ≤ d) (C : HC) (I : HI) (x1 : Int32) (x2 : Int32)  (r : Int32 × HI) : M_Model_join I x1 x2 = some r → kM G d m_Model_join [.ref 88, .int x1, .int x2] C I 0 0 (some (.int r.1)) C r.2 := by
  unfold M_Model_join
  refine kM.of (by decide +kernel) (Nat.le_of_ble_eq_true rfl) (lv := [.ref 88, .int x1, .int x2]) rfl (fun X hX hE => ?_)
  refine kx_go 2 (pc' := 2) (lv' := [.ref 88, .int x1, .int x2]) (st' := [.int x1, .ref 88]) hX ok_Model_join rfl ?_
  refine kx_V (r := 88) (as := [.int x1]) (by decide) hX ok_Model_join (nx := 5) rfl l_Model_165 (by decide) rfl (fun _ => s_Model_isStroke (G := G) (d := 1) (Nat.le_refl _) C I x1 _ rfl) (by omega) rfl (rest := []) rfl (Nat.le_of_ble_eq_true rfl) ⟨Nat.le_of_ble_eq_true rfl, Nat.le_of_ble_eq_true rfl⟩ ?_
  show _ → kW G X m_Model_join C I 0 0 5 [.ref 88, .int x1, .int x2] [.int (M_Model_isStroke I x1)]
  refine kx_go 1 (pc' := if (M_Model_isStroke I x1) = (0 : Int32) then 21 else 8) (lv' := [.ref 88, .int x1, .int x2]) (st' := []) hX ok_Model_join rfl ?_
  refine kx_ite (fun c1 => ?_) (fun c1 => ?_)
  · refine kx_go 2 (pc' := 23) (lv' := [.ref 88, .int x1, .int x2]) (st' := [.int (1 : Int32), .ref 88]) hX ok_Model_join rfl ?_
    refine kx_bind (fun p2 hp2 => ?_)
    refine kx_V (r := 88) (as := [.int (1 : Int32)]) (by decide) hX ok_Model_join (nx := 26) rfl l_Model_129 (by decide) rfl (fun _ => s_Model_finds (G := G) (d := 0) (Nat.le_refl _) C I (1 : Int32) p2 hp2) (by omega) rfl (rest := []) rfl (Nat.le_of_ble_eq_true rfl) ⟨Nat.le_of_ble_eq_true rfl, Nat.le_of_ble_eq_true rfl⟩ ?_
    show _ → kW G X m_Model_join C p2.2 0 0 26 [.ref 88, .int x1, .int x2] [.int p2.1]
    intro h; have h := Option.some.inj h; subst h
    exact kx_iret hX hE ok_Model_join (nx := 27) rfl rfl ⟨Nat.le_of_ble_eq_true rfl, Nat.le_of_ble_eq_true rfl⟩
  · refine kx_go 2 (pc' := 10) (lv' := [.ref 88, .int x1, .int x2]) (st' := [.int x2, .ref 88]) hX ok_Model_join rfl ?_
    refine kx_V (r := 88) (as := [.int x2]) (by decide) hX ok_Model_join (nx := 13) rfl l_Model_165 (by decide) rfl (fun _ => s_Model_isStroke (G := G) (d := 1) (Nat.le_refl _) C I x2 _ rfl) (by omega) rfl (rest := []) rfl (Nat.le_of_ble_eq_true rfl) ⟨Nat.le_of_ble_eq_true rfl, Nat.le_of_ble_eq_true rfl⟩ ?_
    show _ → kW G X m_Model_join C I 0 0 13 [.ref 88, .int x1, .int x2] [.int (M_Model_isStroke I x2)]
    refine kx_go 1 (pc' := if (M_Model_isStroke I x2) = (0 : Int32) then 21 else 16) (lv' := [.ref 88, .int x1, .int x2]) (st' := []) hX ok_Model_join rfl ?_
    refine kx_ite (fun c3 => ?_) (fun c3 => ?_)
    · refine kx_go 2 (pc' := 23) (lv' := [.ref 88, .int x1, .int x2]) (st' := [.int (1 : Int32), .ref 88]) hX ok_Model_join rfl ?_
      refine kx_bind (fun p4 hp4 => ?_)
      refine kx_V (r := 88) (as := [.int (1 : Int32)]) (by decide) hX ok_Model_join (nx := 26) rfl l_Model_129 (by decide) rfl (fun _ => s_Model_finds (G := G) (d := 0) (Nat.le_refl _) C I (1 : Int32) p4 hp4) (by omega) rfl (rest := []) rfl (Nat.le_of_ble_eq_true rfl) ⟨Nat.le_of_ble_eq_true rfl, Nat.le_of_ble_eq_true rfl⟩ ?_
      show _ → kW G X m_Model_join C p4.2 0 0 26 [.ref 88, .int x1, .int x2] [.int p4.1]
      intro h; have h := Option.some.inj h; subst h
      exact kx_iret hX hE ok_Model_join (nx := 27) rfl rfl ⟨Nat.le_of_ble_eq_true rfl, Nat.le_of_ble_eq_true rfl⟩
    · refine kx_go 3 (pc' := if x1 = x2 then 21 else 27) (lv' := [.ref 88, .int x1, .int x2]) (st' := []) hX ok_Model_join rfl ?_
      refine kx_ite (fun c5 => ?_) (fun c5 => ?_)
      · refine kx_go 2 (pc' := 23) (lv' := [.ref 88, .int x1, .int x2]) (st' := [.int (1 : Int32), .ref 88]) hX ok_Model_join rfl ?_
        refine kx_bind (fun p6 hp6 => ?_)
        refine kx_V (r := 88) (as := [.int (1 : Int32)]) (by decide) hX ok_Model_join (nx := 26) rfl l_Model_129 (by decide) rfl (fun _ => s_Model_finds (G := G) (d := 0) (Nat.le_refl _) C I (1 : Int32) p6 hp6) (by omega) rfl (rest := []) rfl (Nat.le_of_ble_eq_true rfl) ⟨Nat.le_of_ble_eq_true rfl, Nat.le_of_ble_eq_true rfl⟩ ?_
        show _ → kW G X m_Model_join C p6.2 0 0 26 [.ref 88, .int x1, .int x2] [.int p6.1]
        intro h; have h := Option.some.inj h; subst h
        exact kx_iret hX hE ok_Model_join (nx := 27) rfl rfl ⟨Nat.le_of_ble_eq_true rfl, Nat.le_of_ble_eq_true rfl⟩
      · refine kx_go 3 (pc' := 30) (lv' := [.ref 88, .int x1, .int x2]) (st' := [.int x2, .int x1, .ref 88]) hX ok_Model_join rfl ?_
        refine kx_bind (fun p7 hp7 => ?_)
        refine kx_V (r := 88) (as := [.int x1, .int x2]) (by decide) hX ok_Model_join (nx := 33) rfl l_Model_254 (by decide) rfl (fun _ => s_Model_joined (G := G) (d := 2) (Nat.le_refl _) C I x1 x2 p7 hp7) (by omega) rfl (rest := []) rfl (Nat.le_of_ble_eq_true rfl) ⟨Nat.le_of_ble_eq_true rfl, Nat.le_of_ble_eq_true rfl⟩ ?_
        show _ → kW G X m_Model_join C I 0 0 33 [.ref 88, .int x1, .int x2] [.int p7]
        refine kx_go 1 (pc' := if p7 = (0 : Int32) then 40 else 36) (lv' := [.ref 88, .int x1, .int x2]) (st' := []) hX ok_Model_join rfl ?_
        refine kx_ite (fun c8 => ?_) (fun c8 => ?_)
        · refine kx_go 1 (pc' := 41) (lv' := [.ref 88, .int x1, .int x2]) (st' := [.int (0 : Int32)]) hX ok_Model_join rfl ?_
          intro h; have h := Option.some.inj h; subst h
          exact kx_iret hX hE ok_Model_join (nx := 42) rfl rfl ⟨Nat.le_of_ble_eq_true rfl, Nat.le_of_ble_eq_true rfl⟩
        · refine kx_go 2 (pc' := 41) (lv' := [.ref 88, .int x1, .int x2]) (st' := [.int (1 : Int32)]) hX ok_Model_join rfl ?_
          intro h; have h := Option.some.inj h; subst h
          exact kx_iret hX hE ok_Model_join (nx := 42) rfl rfl ⟨Nat.le_of_ble_eq_true rfl, Nat.le_of_ble_eq_true rfl⟩
def L_Model_isBeast_14 (x1 : Int32) (x2 : Int32) (I : HI) : Nat → Int32 → Option (Nat)
  | 0, _ => none
  | f + 1, x3 => if x2 ≤ x3 then (some 1) else (if ((x1 >>> (x2 &&& (31 : Int32))) &&& (1 : Int32)) = (1 : Int32) then (if ((x1 >>> (x3 &&& (31 : Int32))) &&& (1 : Int32)) = (1 : Int32) then (Option.bind (M_Model_joined I x2 x3) fun p4 => if p4 = (0 : Int32) then (some 0) else (L_Model_isBeast_14 x1 x2 I f (x3 + (1 : Int32)))) else (L_Model_isBeast_14 x1 x2 I f (x3 + (1 : Int32)))) else (L_Model_isBeast_14 x1 x2 I f (x3 + (1 : Int32))))
theorem s_L_Model_isBeast_14 {G : xG} {X : xC} {d : Nat} (hd : 3 ≤ d) (hX : xAmb G X m_Model_isBeast d 0 0)  (C : HC) (x1 : Int32) (x2 : Int32) (I : HI) : ∀ (f : Nat) (x3 : Int32) (r : Nat), (r = 0 → kW G X m_Model_isBeast C I 0 0 46 [.null, .null, .null, .null] []) → (¬ r = 0 → kW G X m_Model_isBeast C I 0 0 54 [.ref 88, .int x1, .int x2, .null] []) → L_Model_isBeast_14 x1 x2 I f x3 = some r → kW G X m_Model_isBeast C I 0 0 14 [.ref 88, .int x1, .int x2, .int x3] [] := by
  intro f
  induction f with
  | zero => intro x3 r hk0 hk1 h; rw [L_Model_isBeast_14] at h; cases h
  | succ f ih =>
    intro x3 r hk0 hk1
    rw [L_Model_isBeast_14]
    refine kx_go 3 (pc' := if x2 ≤ x3 then 54 else 19) (lv' := [.ref 88, .int x1, .int x2, .int x3]) (st' := []) hX ok_Model_isBeast rfl ?_
    refine kx_ite (fun c1 => ?_) (fun c1 => ?_)
    · refine kx_weak (lv' := [.ref 88, .int x1, .int x2, .null]) (by simp [xsub]) ?_
      intro h; have h := Option.some.inj h; subst h
      exact hk1 (show ¬ (1 : Nat) = 0 by decide)
    · refine kx_go 7 (pc' := if ((x1 >>> (x2 &&& (31 : Int32))) &&& (1 : Int32)) = (1 : Int32) then 28 else 48) (lv' := [.ref 88, .int x1, .int x2, .int x3]) (st' := []) hX ok_Model_isBeast rfl ?_
      refine kx_ite (fun c2 => ?_) (fun c2 => ?_)
      · refine kx_go 7 (pc' := if ((x1 >>> (x3 &&& (31 : Int32))) &&& (1 : Int32)) = (1 : Int32) then 37 else 48) (lv' := [.ref 88, .int x1, .int x2, .int x3]) (st' := []) hX ok_Model_isBeast rfl ?_
        refine kx_ite (fun c3 => ?_) (fun c3 => ?_)
        · refine kx_go 3 (pc' := 40) (lv' := [.ref 88, .int x1, .int x2, .int x3]) (st' := [.int x3, .int x2, .ref 88]) hX ok_Model_isBeast rfl ?_
          refine kx_bind (fun p4 hp4 => ?_)
          refine kx_V (r := 88) (as := [.int x2, .int x3]) (by decide) hX ok_Model_isBeast (nx := 43) rfl l_Model_254 (by decide) rfl (fun _ => s_Model_joined (G := G) (d := 2) (Nat.le_refl _) C I x2 x3 p4 hp4) (by omega) rfl (rest := []) rfl (Nat.le_of_ble_eq_true rfl) ⟨Nat.le_of_ble_eq_true rfl, Nat.le_of_ble_eq_true rfl⟩ ?_
          show _ → kW G X m_Model_isBeast C I 0 0 43 [.ref 88, .int x1, .int x2, .int x3] [.int p4]
          refine kx_go 1 (pc' := if p4 = (0 : Int32) then 46 else 48) (lv' := [.ref 88, .int x1, .int x2, .int x3]) (st' := []) hX ok_Model_isBeast rfl ?_
          refine kx_ite (fun c5 => ?_) (fun c5 => ?_)
          · refine kx_weak (lv' := [.null, .null, .null, .null]) (by simp [xsub]) ?_
            intro h; have h := Option.some.inj h; subst h
            exact hk0 rfl
          · refine kx_go 2 (pc' := 14) (lv' := [.ref 88, .int x1, .int x2, .int (x3 + (1 : Int32))]) (st' := []) hX ok_Model_isBeast rfl ?_
            exact fun h => ih (x3 + (1 : Int32)) r hk0 hk1 h
        · refine kx_go 2 (pc' := 14) (lv' := [.ref 88, .int x1, .int x2, .int (x3 + (1 : Int32))]) (st' := []) hX ok_Model_isBeast rfl ?_
          exact fun h => ih (x3 + (1 : Int32)) r hk0 hk1 h
      · refine kx_go 2 (pc' := 14) (lv' := [.ref 88, .int x1, .int x2, .int (x3 + (1 : Int32))]) (st' := []) hX ok_Model_isBeast rfl ?_
        exact fun h => ih (x3 + (1 : Int32)) r hk0 hk1 h
def L_Model_isBeast_2 (x1 : Int32) (I : HI) : Nat → Int32 → Option (Nat)
  | 0, _ => none
  | f + 1, x2 => if (I 89 0) ≤ x2 then (some 1) else (Option.bind (L_Model_isBeast_14 x1 x2 I 1000 (0 : Int32)) fun p2 => if p2 = 0 then (some 0) else (L_Model_isBeast_2 x1 I f (x2 + (1 : Int32))))
theorem s_L_Model_isBeast_2 {G : xG} {X : xC} {d : Nat} (hd : 3 ≤ d) (hX : xAmb G X m_Model_isBeast d 0 0)  (C : HC) (x1 : Int32) (I : HI) : ∀ (f : Nat) (x2 : Int32) (r : Nat), (r = 0 → kW G X m_Model_isBeast C I 0 0 46 [.null, .null, .null, .null] []) → (¬ r = 0 → kW G X m_Model_isBeast C I 0 0 60 [.null, .null, .null, .null] []) → L_Model_isBeast_2 x1 I f x2 = some r → kW G X m_Model_isBeast C I 0 0 2 [.ref 88, .int x1, .int x2, .null] [] := by
  intro f
  induction f with
  | zero => intro x2 r hk0 hk1 h; rw [L_Model_isBeast_2] at h; cases h
  | succ f ih =>
    intro x2 r hk0 hk1
    rw [L_Model_isBeast_2]
    refine kx_go 2 (pc' := 4) (lv' := [.ref 88, .int x1, .int x2, .null]) (st' := [.ref 88, .int x2]) hX ok_Model_isBeast rfl ?_
    refine kx_getp hX ok_Model_isBeast rfl (q := 89) (nx := 7) rfl ?_
    refine kx_go 1 (pc' := 8) (lv' := [.ref 88, .int x1, .int x2, .null]) (st' := [.int (0 : Int32), .ref 89, .int x2]) hX ok_Model_isBeast rfl ?_
    refine kx_ialdc hX ok_Model_isBeast (w := 270) (nx := 9) rfl rfl (k := 0) rfl ?_
    refine kx_go 1 (pc' := if (I 89 0) ≤ x2 then 60 else 12) (lv' := [.ref 88, .int x1, .int x2, .null]) (st' := []) hX ok_Model_isBeast rfl ?_
    refine kx_ite (fun c1 => ?_) (fun c1 => ?_)
    · refine kx_weak (lv' := [.null, .null, .null, .null]) (by simp [xsub]) ?_
      intro h; have h := Option.some.inj h; subst h
      exact hk1 (show ¬ (1 : Nat) = 0 by decide)
    · refine kx_go 2 (pc' := 14) (lv' := [.ref 88, .int x1, .int x2, .int (0 : Int32)]) (st' := []) hX ok_Model_isBeast rfl ?_
      refine kx_bind (fun p2 hp2 => ?_)
      refine kx_via2 (fun hk0 hk1 => s_L_Model_isBeast_14 (G := G) (X := X) (by omega) hX C x1 x2 I 1000 (0 : Int32) p2 hk0 hk1 hp2) (fun _ => ?_) (fun _ => ?_)
      · intro h; have h := Option.some.inj h; subst h
        exact hk0 rfl
      · refine kx_go 2 (pc' := 2) (lv' := [.ref 88, .int x1, .int (x2 + (1 : Int32)), .null]) (st' := []) hX ok_Model_isBeast rfl ?_
        exact fun h => ih (x2 + (1 : Int32)) r hk0 hk1 h
def M_Model_isBeast (I : HI) (x1 : Int32) : Option (Int32) := Option.bind (L_Model_isBeast_2 x1 I 1000 (0 : Int32)) fun p1 => if p1 = 0 then (some (0 : Int32)) else (some (1 : Int32))
theorem s_Model_isBeast {G : xG} {d : Nat} (hd : 3 ≤ d) (C : HC) (I : HI) (x1 : Int32)  (r : Int32) : M_Model_isBeast I x1 = some r → kM G d m_Model_isBeast [.ref 88, .int x1] C I 0 0 (some (.int r)) C I := by
  unfold M_Model_isBeast
  refine kM.of (by decide +kernel) (Nat.le_of_ble_eq_true rfl) (lv := [.ref 88, .int x1, .null, .null]) rfl (fun X hX hE => ?_)
  refine kx_go 2 (pc' := 2) (lv' := [.ref 88, .int x1, .int (0 : Int32), .null]) (st' := []) hX ok_Model_isBeast rfl ?_
  refine kx_bind (fun p1 hp1 => ?_)
  refine kx_via2 (fun hk0 hk1 => s_L_Model_isBeast_2 (G := G) (X := X) (by omega) hX C x1 I 1000 (0 : Int32) p1 hk0 hk1 hp1) (fun _ => ?_) (fun _ => ?_)
  · refine kx_go 1 (pc' := 47) (lv' := [.null, .null, .null, .null]) (st' := [.int (0 : Int32)]) hX ok_Model_isBeast rfl ?_
    intro h; have h := Option.some.inj h; subst h
    exact kx_zret hX hE ok_Model_isBeast (nx := 48) rfl rfl (Or.inl rfl) ⟨Nat.le_of_ble_eq_true rfl, Nat.le_of_ble_eq_true rfl⟩
  · refine kx_go 1 (pc' := 61) (lv' := [.null, .null, .null, .null]) (st' := [.int (1 : Int32)]) hX ok_Model_isBeast rfl ?_
    intro h; have h := Option.some.inj h; subst h
    exact kx_zret hX hE ok_Model_isBeast (nx := 62) rfl rfl (Or.inr rfl) ⟨Nat.le_of_ble_eq_true rfl, Nat.le_of_ble_eq_true rfl⟩
def L_Model_joinings_74 (x1 : Int32) (x2 : Int32) (x3 : Int32) : Nat → Int32 → HI → Option (HI)
  | 0, _, _ => none
  | f + 1, x4, I => if x4 ≤ (0 : Int32) then (some I) else (if (x4 &&& x3) = (0 : Int32) then (L_Model_joinings_74 x1 x2 x3 f ((x4 - (1 : Int32)) &&& x2) I) else (grd (bnd x4 256) (if (I 100 x4.toNatClampNeg) = (0 : Int32) then (L_Model_joinings_74 x1 x2 x3 f ((x4 - (1 : Int32)) &&& x2) I) else (grd (bnd x2 256) (grd (bnd (x2 &&& (x4 ^^^ (-1 : Int32))) 256) (lt (xu I 101 x2.toNatClampNeg ((I 101 x2.toNatClampNeg) + (I 101 (x2 &&& (x4 ^^^ (-1 : Int32))).toNatClampNeg))) fun J7 => if (J7 96 x2.toNatClampNeg) ≤ ((J7 96 (x2 &&& (x4 ^^^ (-1 : Int32))).toNatClampNeg) + (1 : Int32)) then (lt (xu J7 96 x2.toNatClampNeg (J7 96 x2.toNatClampNeg)) fun J9 => L_Model_joinings_74 x1 x2 x3 f ((x4 - (1 : Int32)) &&& x2) J9) else (lt (xu J7 96 x2.toNatClampNeg ((J7 96 (x2 &&& (x4 ^^^ (-1 : Int32))).toNatClampNeg) + (1 : Int32))) fun J10 => L_Model_joinings_74 x1 x2 x3 f ((x4 - (1 : Int32)) &&& x2) J10)))))))
theorem s_L_Model_joinings_74 {G : xG} {X : xC} {d : Nat} (hd : 4 ≤ d) (hX : xAmb G X m_Model_joinings d 0 0)  (C : HC) (x1 : Int32) (x2 : Int32) (x3 : Int32) : ∀ (f : Nat) (x4 : Int32) (I : HI) (r : HI), (kW G X m_Model_joinings C r 0 0 177 [.ref 88, .int x1, .int x2, .null, .null] []) → L_Model_joinings_74 x1 x2 x3 f x4 I = some r → kW G X m_Model_joinings C I 0 0 74 [.ref 88, .int x1, .int x2, .int x3, .int x4] [] := by
  intro f
  induction f with
  | zero => intro x4 I r hk h; rw [L_Model_joinings_74] at h; cases h
  | succ f ih =>
    intro x4 I r hk
    rw [L_Model_joinings_74]
    refine kx_go 2 (pc' := if x4 ≤ (0 : Int32) then 177 else 79) (lv' := [.ref 88, .int x1, .int x2, .int x3, .int x4]) (st' := []) hX ok_Model_joinings rfl ?_
    refine kx_ite (fun c1 => ?_) (fun c1 => ?_)
    · refine kx_weak (lv' := [.ref 88, .int x1, .int x2, .null, .null]) (by simp [xsub]) ?_
      intro h; have h := Option.some.inj h; subst h
      exact hk
    · refine kx_go 4 (pc' := if (x4 &&& x3) = (0 : Int32) then 166 else 86) (lv' := [.ref 88, .int x1, .int x2, .int x3, .int x4]) (st' := []) hX ok_Model_joinings rfl ?_
      refine kx_ite (fun c2 => ?_) (fun c2 => ?_)
      · refine kx_go 7 (pc' := 74) (lv' := [.ref 88, .int x1, .int x2, .int x3, .int ((x4 - (1 : Int32)) &&& x2)]) (st' := []) hX ok_Model_joinings rfl ?_
        exact fun h => ih ((x4 - (1 : Int32)) &&& x2) I r hk h
      · refine kx_go 1 (pc' := 87) (lv' := [.ref 88, .int x1, .int x2, .int x3, .int x4]) (st' := [.ref 88]) hX ok_Model_joinings rfl ?_
        refine kx_getp hX ok_Model_joinings rfl (q := 100) (nx := 90) rfl ?_
        refine kx_go 1 (pc' := 92) (lv' := [.ref 88, .int x1, .int x2, .int x3, .int x4]) (st' := [.int x4, .ref 100]) hX ok_Model_joinings rfl ?_
        refine kx_bald hX ok_Model_joinings (w := 256) (nx := 93) rfl (fun b3 => ?_)
        refine kx_go 1 (pc' := if (I 100 x4.toNatClampNeg) = (0 : Int32) then 166 else 96) (lv' := [.ref 88, .int x1, .int x2, .int x3, .int x4]) (st' := []) hX ok_Model_joinings rfl ?_
        refine kx_ite (fun c4 => ?_) (fun c4 => ?_)
        · refine kx_go 7 (pc' := 74) (lv' := [.ref 88, .int x1, .int x2, .int x3, .int ((x4 - (1 : Int32)) &&& x2)]) (st' := []) hX ok_Model_joinings rfl ?_
          exact fun h => ih ((x4 - (1 : Int32)) &&& x2) I r hk h
        · refine kx_go 1 (pc' := 97) (lv' := [.ref 88, .int x1, .int x2, .int x3, .int x4]) (st' := [.ref 88]) hX ok_Model_joinings rfl ?_
          refine kx_getp hX ok_Model_joinings rfl (q := 101) (nx := 100) rfl ?_
          refine kx_go 2 (pc' := 102) (lv' := [.ref 88, .int x1, .int x2, .int x3, .int x4]) (st' := [.int x2, .ref 101, .int x2, .ref 101]) hX ok_Model_joinings rfl ?_
          refine kx_iald hX ok_Model_joinings (w := 256) (nx := 103) rfl (fun b5 => ?_)
          refine kx_go 1 (pc' := 104) (lv' := [.ref 88, .int x1, .int x2, .int x3, .int x4]) (st' := [.ref 88, .int (I 101 x2.toNatClampNeg), .int x2, .ref 101]) hX ok_Model_joinings rfl ?_
          refine kx_getp hX ok_Model_joinings rfl (q := 101) (nx := 107) rfl ?_
          refine kx_go 5 (pc' := 113) (lv' := [.ref 88, .int x1, .int x2, .int x3, .int x4]) (st' := [.int (x2 &&& (x4 ^^^ (-1 : Int32))), .ref 101, .int (I 101 x2.toNatClampNeg), .int x2, .ref 101]) hX ok_Model_joinings rfl ?_
          refine kx_iald hX ok_Model_joinings (w := 256) (nx := 114) rfl (fun b6 => ?_)
          refine kx_go 1 (pc' := 115) (lv' := [.ref 88, .int x1, .int x2, .int x3, .int x4]) (st' := [.int ((I 101 x2.toNatClampNeg) + (I 101 (x2 &&& (x4 ^^^ (-1 : Int32))).toNatClampNeg)), .int x2, .ref 101]) hX ok_Model_joinings rfl ?_
          refine kx_iastc hX ok_Model_joinings (w := 256) (nx := 116) rfl b5 (k := x2.toNatClampNeg) rfl ?_
          refine kx_lt (Q := fun J7 => kW G X m_Model_joinings C J7 0 0 116 [.ref 88, .int x1, .int x2, .int x3, .int x4] []) (fun J7 eJ7 => ?_)
          refine kx_go 1 (pc' := 117) (lv' := [.ref 88, .int x1, .int x2, .int x3, .int x4]) (st' := [.ref 88]) hX ok_Model_joinings rfl ?_
          refine kx_getp hX ok_Model_joinings rfl (q := 96) (nx := 120) rfl ?_
          refine kx_go 2 (pc' := 122) (lv' := [.ref 88, .int x1, .int x2, .int x3, .int x4]) (st' := [.ref 88, .int x2, .ref 96]) hX ok_Model_joinings rfl ?_
          refine kx_getp hX ok_Model_joinings rfl (q := 96) (nx := 125) rfl ?_
          refine kx_go 5 (pc' := 131) (lv' := [.ref 88, .int x1, .int x2, .int x3, .int x4]) (st' := [.int (x2 &&& (x4 ^^^ (-1 : Int32))), .ref 96, .int x2, .ref 96]) hX ok_Model_joinings rfl ?_
          refine kx_ialdc hX ok_Model_joinings (w := 256) (nx := 132) rfl b6 (k := (x2 &&& (x4 ^^^ (-1 : Int32))).toNatClampNeg) rfl ?_
          refine kx_go 3 (pc' := 135) (lv' := [.ref 88, .int x1, .int x2, .int x3, .int x4]) (st' := [.ref 88, .int ((J7 96 (x2 &&& (x4 ^^^ (-1 : Int32))).toNatClampNeg) + (1 : Int32)), .int x2, .ref 96]) hX ok_Model_joinings rfl ?_
          refine kx_getp hX ok_Model_joinings rfl (q := 96) (nx := 138) rfl ?_
          refine kx_go 1 (pc' := 139) (lv' := [.ref 88, .int x1, .int x2, .int x3, .int x4]) (st' := [.int x2, .ref 96, .int ((J7 96 (x2 &&& (x4 ^^^ (-1 : Int32))).toNatClampNeg) + (1 : Int32)), .int x2, .ref 96]) hX ok_Model_joinings rfl ?_
          refine kx_ialdc hX ok_Model_joinings (w := 256) (nx := 140) rfl b5 (k := x2.toNatClampNeg) rfl ?_
          refine kx_go 1 (pc' := if (J7 96 x2.toNatClampNeg) ≤ ((J7 96 (x2 &&& (x4 ^^^ (-1 : Int32))).toNatClampNeg) + (1 : Int32)) then 159 else 143) (lv' := [.ref 88, .int x1, .int x2, .int x3, .int x4]) (st' := [.int x2, .ref 96]) hX ok_Model_joinings rfl ?_
          refine kx_ite (fun c8 => ?_) (fun c8 => ?_)
          · refine kx_go 1 (pc' := 160) (lv' := [.ref 88, .int x1, .int x2, .int x3, .int x4]) (st' := [.ref 88, .int x2, .ref 96]) hX ok_Model_joinings rfl ?_
            refine kx_getp hX ok_Model_joinings rfl (q := 96) (nx := 163) rfl ?_
            refine kx_go 1 (pc' := 164) (lv' := [.ref 88, .int x1, .int x2, .int x3, .int x4]) (st' := [.int x2, .ref 96, .int x2, .ref 96]) hX ok_Model_joinings rfl ?_
            refine kx_ialdc hX ok_Model_joinings (w := 256) (nx := 165) rfl b5 (k := x2.toNatClampNeg) rfl ?_
            refine kx_iastc hX ok_Model_joinings (w := 256) (nx := 166) rfl b5 (k := x2.toNatClampNeg) rfl ?_
            refine kx_lt (Q := fun J9 => kW G X m_Model_joinings C J9 0 0 166 [.ref 88, .int x1, .int x2, .int x3, .int x4] []) (fun J9 eJ9 => ?_)
            refine kx_go 7 (pc' := 74) (lv' := [.ref 88, .int x1, .int x2, .int x3, .int ((x4 - (1 : Int32)) &&& x2)]) (st' := []) hX ok_Model_joinings rfl ?_
            exact fun h => ih ((x4 - (1 : Int32)) &&& x2) J9 r hk h
          · refine kx_go 1 (pc' := 144) (lv' := [.ref 88, .int x1, .int x2, .int x3, .int x4]) (st' := [.ref 88, .int x2, .ref 96]) hX ok_Model_joinings rfl ?_
            refine kx_getp hX ok_Model_joinings rfl (q := 96) (nx := 147) rfl ?_
            refine kx_go 5 (pc' := 153) (lv' := [.ref 88, .int x1, .int x2, .int x3, .int x4]) (st' := [.int (x2 &&& (x4 ^^^ (-1 : Int32))), .ref 96, .int x2, .ref 96]) hX ok_Model_joinings rfl ?_
            refine kx_ialdc hX ok_Model_joinings (w := 256) (nx := 154) rfl b6 (k := (x2 &&& (x4 ^^^ (-1 : Int32))).toNatClampNeg) rfl ?_
            refine kx_go 3 (pc' := 165) (lv' := [.ref 88, .int x1, .int x2, .int x3, .int x4]) (st' := [.int ((J7 96 (x2 &&& (x4 ^^^ (-1 : Int32))).toNatClampNeg) + (1 : Int32)), .int x2, .ref 96]) hX ok_Model_joinings rfl ?_
            refine kx_iastc hX ok_Model_joinings (w := 256) (nx := 166) rfl b5 (k := x2.toNatClampNeg) rfl ?_
            refine kx_lt (Q := fun J10 => kW G X m_Model_joinings C J10 0 0 166 [.ref 88, .int x1, .int x2, .int x3, .int x4] []) (fun J10 eJ10 => ?_)
            refine kx_go 7 (pc' := 74) (lv' := [.ref 88, .int x1, .int x2, .int x3, .int ((x4 - (1 : Int32)) &&& x2)]) (st' := []) hX ok_Model_joinings rfl ?_
            exact fun h => ih ((x4 - (1 : Int32)) &&& x2) J10 r hk h
def L_Model_joinings_32 (x1 : Int32) : Nat → Int32 → HI → Option (HI)
  | 0, _, _ => none
  | f + 1, x2, I => if (M_Model_allStrokes I) < x2 then (some I) else (Option.bind (M_Model_isBeast I x2) fun p2 => grd (b01 p2) (grd (bnd x2 256) (lt (xu I 100 x2.toNatClampNeg p2) fun J5 => lt (xu J5 101 x2.toNatClampNeg (0 : Int32)) fun J6 => lt (xu J6 96 x2.toNatClampNeg (1000000 : Int32)) fun J7 => Option.bind (L_Model_joinings_74 x1 x2 (x2 &&& (-x2)) 1000 x2 J7) fun p8 => L_Model_joinings_32 x1 f (x2 + (1 : Int32)) p8)))
theorem s_L_Model_joinings_32 {G : xG} {X : xC} {d : Nat} (hd : 4 ≤ d) (hX : xAmb G X m_Model_joinings d 0 0)  (C : HC) (x1 : Int32) : ∀ (f : Nat) (x2 : Int32) (I : HI) (r : HI), (kW G X m_Model_joinings C r 0 0 183 [.ref 88, .int x1, .null, .null, .null] []) → L_Model_joinings_32 x1 f x2 I = some r → kW G X m_Model_joinings C I 0 0 32 [.ref 88, .int x1, .int x2, .null, .null] [] := by
  intro f
  induction f with
  | zero => intro x2 I r hk h; rw [L_Model_joinings_32] at h; cases h
  | succ f ih =>
    intro x2 I r hk
    rw [L_Model_joinings_32]
    refine kx_go 2 (pc' := 34) (lv' := [.ref 88, .int x1, .int x2, .null, .null]) (st' := [.ref 88, .int x2]) hX ok_Model_joinings rfl ?_
    refine kx_V (r := 88) (as := []) (by decide) hX ok_Model_joinings (nx := 37) rfl l_Model_211 (by decide) rfl (fun _ => s_Model_allStrokes (G := G) (d := 0) (Nat.le_refl _) C I  _ rfl) (by omega) rfl (rest := [.int x2]) rfl (Nat.le_of_ble_eq_true rfl) ⟨Nat.le_of_ble_eq_true rfl, Nat.le_of_ble_eq_true rfl⟩ ?_
    show _ → kW G X m_Model_joinings C I 0 0 37 [.ref 88, .int x1, .int x2, .null, .null] [.int (M_Model_allStrokes I), .int x2]
    refine kx_go 1 (pc' := if (M_Model_allStrokes I) < x2 then 183 else 40) (lv' := [.ref 88, .int x1, .int x2, .null, .null]) (st' := []) hX ok_Model_joinings rfl ?_
    refine kx_ite (fun c1 => ?_) (fun c1 => ?_)
    · refine kx_weak (lv' := [.ref 88, .int x1, .null, .null, .null]) (by simp [xsub]) ?_
      intro h; have h := Option.some.inj h; subst h
      exact hk
    · refine kx_go 1 (pc' := 41) (lv' := [.ref 88, .int x1, .int x2, .null, .null]) (st' := [.ref 88]) hX ok_Model_joinings rfl ?_
      refine kx_getp hX ok_Model_joinings rfl (q := 100) (nx := 44) rfl ?_
      refine kx_go 3 (pc' := 47) (lv' := [.ref 88, .int x1, .int x2, .null, .null]) (st' := [.int x2, .ref 88, .int x2, .ref 100]) hX ok_Model_joinings rfl ?_
      refine kx_bind (fun p2 hp2 => ?_)
      refine kx_V (r := 88) (as := [.int x2]) (by decide) hX ok_Model_joinings (nx := 50) rfl l_Model_257 (by decide) rfl (fun _ => s_Model_isBeast (G := G) (d := 3) (Nat.le_refl _) C I x2 p2 hp2) (by omega) rfl (rest := [.int x2, .ref 100]) rfl (Nat.le_of_ble_eq_true rfl) ⟨Nat.le_of_ble_eq_true rfl, Nat.le_of_ble_eq_true rfl⟩ ?_
      show _ → kW G X m_Model_joinings C I 0 0 50 [.ref 88, .int x1, .int x2, .null, .null] [.int p2, .int x2, .ref 100]
      refine kx_grd (fun h3 => ?_)
      refine kx_bast hX ok_Model_joinings (w := 256) (nx := 51) rfl (b01_or h3) (fun b4 => ?_)
      refine kx_lt (Q := fun J5 => kW G X m_Model_joinings C J5 0 0 51 [.ref 88, .int x1, .int x2, .null, .null] []) (fun J5 eJ5 => ?_)
      refine kx_go 1 (pc' := 52) (lv' := [.ref 88, .int x1, .int x2, .null, .null]) (st' := [.ref 88]) hX ok_Model_joinings rfl ?_
      refine kx_getp hX ok_Model_joinings rfl (q := 101) (nx := 55) rfl ?_
      refine kx_go 2 (pc' := 57) (lv' := [.ref 88, .int x1, .int x2, .null, .null]) (st' := [.int (0 : Int32), .int x2, .ref 101]) hX ok_Model_joinings rfl ?_
      refine kx_iastc hX ok_Model_joinings (w := 256) (nx := 58) rfl b4 (k := x2.toNatClampNeg) rfl ?_
      refine kx_lt (Q := fun J6 => kW G X m_Model_joinings C J6 0 0 58 [.ref 88, .int x1, .int x2, .null, .null] []) (fun J6 eJ6 => ?_)
      refine kx_go 1 (pc' := 59) (lv' := [.ref 88, .int x1, .int x2, .null, .null]) (st' := [.ref 88]) hX ok_Model_joinings rfl ?_
      refine kx_getp hX ok_Model_joinings rfl (q := 96) (nx := 62) rfl ?_
      refine kx_go 2 (pc' := 65) (lv' := [.ref 88, .int x1, .int x2, .null, .null]) (st' := [.int (1000000 : Int32), .int x2, .ref 96]) hX ok_Model_joinings rfl ?_
      refine kx_iastc hX ok_Model_joinings (w := 256) (nx := 66) rfl b4 (k := x2.toNatClampNeg) rfl ?_
      refine kx_lt (Q := fun J7 => kW G X m_Model_joinings C J7 0 0 66 [.ref 88, .int x1, .int x2, .null, .null] []) (fun J7 eJ7 => ?_)
      refine kx_go 7 (pc' := 74) (lv' := [.ref 88, .int x1, .int x2, .int (x2 &&& (-x2)), .int x2]) (st' := []) hX ok_Model_joinings rfl ?_
      refine kx_bind (fun p8 hp8 => ?_)
      refine kx_via (fun hk => s_L_Model_joinings_74 (G := G) (X := X) (by omega) hX C x1 x2 (x2 &&& (-x2)) 1000 x2 J7 p8 hk hp8) ?_
      refine kx_go 2 (pc' := 32) (lv' := [.ref 88, .int x1, .int (x2 + (1 : Int32)), .null, .null]) (st' := []) hX ok_Model_joinings rfl ?_
      exact fun h => ih (x2 + (1 : Int32)) p8 r hk h
def M_Model_joinings (I : HI) (x1 : Int32) : Option (Int32 × HI) := if (M_Model_in (x1.toInt64) (Int64.ofNat 0) (Int64.ofNat 1)) = (0 : Int32) then (Option.bind (M_Model_finds I (1 : Int32)) fun p2 => some (p2.1, p2.2)) else (lt (xu I 101 0 (1 : Int32)) fun J3 => lt (xu J3 96 0 (0 : Int32)) fun J4 => Option.bind (L_Model_joinings_32 x1 1000 (1 : Int32) J4) fun p5 => if x1 = (0 : Int32) then (grd (bnd (M_Model_allStrokes p5) 256) (some ((p5 101 (M_Model_allStrokes p5).toNatClampNeg), p5))) else (grd (bnd (M_Model_allStrokes p5) 256) (some ((p5 96 (M_Model_allStrokes p5).toNatClampNeg), p5))))
theorem s_Model_joinings {G : xG} {d : Nat} (hd : 4 ≤ d) (C : HC) (I : HI) (x1 : Int32)  (r : Int32 × HI) : M_Model_joinings I x1 = some r → kM G d m_Model_joinings [.ref 88, .int x1] C I 0 0 (some (.int r.1)) C r.2 := by
  unfold M_Model_joinings
  refine kM.of (by decide +kernel) (Nat.le_of_ble_eq_true rfl) (lv := [.ref 88, .int x1, .null, .null, .null]) rfl (fun X hX hE => ?_)
  refine kx_go 4 (pc' := 4) (lv' := [.ref 88, .int x1, .null, .null, .null]) (st' := [.long (Int64.ofNat 1), .long (Int64.ofNat 0), .long (x1.toInt64)]) hX ok_Model_joinings rfl ?_
  refine kx_S (as := [.long (x1.toInt64), .long (Int64.ofNat 0), .long (Int64.ofNat 1)]) hX ok_Model_joinings (nx := 7) rfl l_Model_66 (fun _ => s_Model_in (G := G) (d := 0) (Nat.le_refl _) C I (x1.toInt64) (Int64.ofNat 0) (Int64.ofNat 1) _ rfl) (by omega) rfl (rest := []) rfl (Nat.le_of_ble_eq_true rfl) ⟨Nat.le_of_ble_eq_true rfl, Nat.le_of_ble_eq_true rfl⟩ ?_
  show _ → kW G X m_Model_joinings C I 0 0 7 [.ref 88, .int x1, .null, .null, .null] [.int (M_Model_in (x1.toInt64) (Int64.ofNat 0) (Int64.ofNat 1))]
  refine kx_go 1 (pc' := if (M_Model_in (x1.toInt64) (Int64.ofNat 0) (Int64.ofNat 1)) = (0 : Int32) then 10 else 16) (lv' := [.ref 88, .int x1, .null, .null, .null]) (st' := []) hX ok_Model_joinings rfl ?_
  refine kx_ite (fun c1 => ?_) (fun c1 => ?_)
  · refine kx_go 2 (pc' := 12) (lv' := [.ref 88, .int x1, .null, .null, .null]) (st' := [.int (1 : Int32), .ref 88]) hX ok_Model_joinings rfl ?_
    refine kx_bind (fun p2 hp2 => ?_)
    refine kx_V (r := 88) (as := [.int (1 : Int32)]) (by decide) hX ok_Model_joinings (nx := 15) rfl l_Model_129 (by decide) rfl (fun _ => s_Model_finds (G := G) (d := 0) (Nat.le_refl _) C I (1 : Int32) p2 hp2) (by omega) rfl (rest := []) rfl (Nat.le_of_ble_eq_true rfl) ⟨Nat.le_of_ble_eq_true rfl, Nat.le_of_ble_eq_true rfl⟩ ?_
    show _ → kW G X m_Model_joinings C p2.2 0 0 15 [.ref 88, .int x1, .null, .null, .null] [.int p2.1]
    intro h; have h := Option.some.inj h; subst h
    exact kx_iret hX hE ok_Model_joinings (nx := 16) rfl rfl ⟨Nat.le_of_ble_eq_true rfl, Nat.le_of_ble_eq_true rfl⟩
  · refine kx_go 1 (pc' := 17) (lv' := [.ref 88, .int x1, .null, .null, .null]) (st' := [.ref 88]) hX ok_Model_joinings rfl ?_
    refine kx_getp hX ok_Model_joinings rfl (q := 101) (nx := 20) rfl ?_
    refine kx_go 2 (pc' := 22) (lv' := [.ref 88, .int x1, .null, .null, .null]) (st' := [.int (1 : Int32), .int (0 : Int32), .ref 101]) hX ok_Model_joinings rfl ?_
    refine kx_iastc hX ok_Model_joinings (w := 256) (nx := 23) rfl rfl (k := 0) rfl ?_
    refine kx_lt (Q := fun J3 => kW G X m_Model_joinings C J3 0 0 23 [.ref 88, .int x1, .null, .null, .null] []) (fun J3 eJ3 => ?_)
    refine kx_go 1 (pc' := 24) (lv' := [.ref 88, .int x1, .null, .null, .null]) (st' := [.ref 88]) hX ok_Model_joinings rfl ?_
    refine kx_getp hX ok_Model_joinings rfl (q := 96) (nx := 27) rfl ?_
    refine kx_go 2 (pc' := 29) (lv' := [.ref 88, .int x1, .null, .null, .null]) (st' := [.int (0 : Int32), .int (0 : Int32), .ref 96]) hX ok_Model_joinings rfl ?_
    refine kx_iastc hX ok_Model_joinings (w := 256) (nx := 30) rfl rfl (k := 0) rfl ?_
    refine kx_lt (Q := fun J4 => kW G X m_Model_joinings C J4 0 0 30 [.ref 88, .int x1, .null, .null, .null] []) (fun J4 eJ4 => ?_)
    refine kx_go 2 (pc' := 32) (lv' := [.ref 88, .int x1, .int (1 : Int32), .null, .null]) (st' := []) hX ok_Model_joinings rfl ?_
    refine kx_bind (fun p5 hp5 => ?_)
    refine kx_via (fun hk => s_L_Model_joinings_32 (G := G) (X := X) (by omega) hX C x1 1000 (1 : Int32) J4 p5 hk hp5) ?_
    refine kx_go 2 (pc' := if x1 = (0 : Int32) then 187 else 199) (lv' := [.ref 88, .int x1, .null, .null, .null]) (st' := []) hX ok_Model_joinings rfl ?_
    refine kx_ite (fun c6 => ?_) (fun c6 => ?_)
    · refine kx_go 1 (pc' := 188) (lv' := [.ref 88, .int x1, .null, .null, .null]) (st' := [.ref 88]) hX ok_Model_joinings rfl ?_
      refine kx_getp hX ok_Model_joinings rfl (q := 101) (nx := 191) rfl ?_
      refine kx_go 1 (pc' := 192) (lv' := [.ref 88, .int x1, .null, .null, .null]) (st' := [.ref 88, .ref 101]) hX ok_Model_joinings rfl ?_
      refine kx_V (r := 88) (as := []) (by decide) hX ok_Model_joinings (nx := 195) rfl l_Model_211 (by decide) rfl (fun _ => s_Model_allStrokes (G := G) (d := 0) (Nat.le_refl _) C p5  _ rfl) (by omega) rfl (rest := [.ref 101]) rfl (Nat.le_of_ble_eq_true rfl) ⟨Nat.le_of_ble_eq_true rfl, Nat.le_of_ble_eq_true rfl⟩ ?_
      show _ → kW G X m_Model_joinings C p5 0 0 195 [.ref 88, .int x1, .null, .null, .null] [.int (M_Model_allStrokes p5), .ref 101]
      refine kx_iald hX ok_Model_joinings (w := 256) (nx := 196) rfl (fun b7 => ?_)
      refine kx_go 1 (pc' := 208) (lv' := [.ref 88, .int x1, .null, .null, .null]) (st' := [.int (p5 101 (M_Model_allStrokes p5).toNatClampNeg)]) hX ok_Model_joinings rfl ?_
      intro h; have h := Option.some.inj h; subst h
      exact kx_iret hX hE ok_Model_joinings (nx := 209) rfl rfl ⟨Nat.le_of_ble_eq_true rfl, Nat.le_of_ble_eq_true rfl⟩
    · refine kx_go 1 (pc' := 200) (lv' := [.ref 88, .int x1, .null, .null, .null]) (st' := [.ref 88]) hX ok_Model_joinings rfl ?_
      refine kx_getp hX ok_Model_joinings rfl (q := 96) (nx := 203) rfl ?_
      refine kx_go 1 (pc' := 204) (lv' := [.ref 88, .int x1, .null, .null, .null]) (st' := [.ref 88, .ref 96]) hX ok_Model_joinings rfl ?_
      refine kx_V (r := 88) (as := []) (by decide) hX ok_Model_joinings (nx := 207) rfl l_Model_211 (by decide) rfl (fun _ => s_Model_allStrokes (G := G) (d := 0) (Nat.le_refl _) C p5  _ rfl) (by omega) rfl (rest := [.ref 96]) rfl (Nat.le_of_ble_eq_true rfl) ⟨Nat.le_of_ble_eq_true rfl, Nat.le_of_ble_eq_true rfl⟩ ?_
      show _ → kW G X m_Model_joinings C p5 0 0 207 [.ref 88, .int x1, .null, .null, .null] [.int (M_Model_allStrokes p5), .ref 96]
      refine kx_iald hX ok_Model_joinings (w := 256) (nx := 208) rfl (fun b8 => ?_)
      intro h; have h := Option.some.inj h; subst h
      exact kx_iret hX hE ok_Model_joinings (nx := 209) rfl rfl ⟨Nat.le_of_ble_eq_true rfl, Nat.le_of_ble_eq_true rfl⟩
