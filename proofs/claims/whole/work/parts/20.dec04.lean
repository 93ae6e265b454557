def M_Model_lower (I : HI) (x1 : Int32) : Option (Int32) := grd (bnd (((61 : Int32) + ((3 : Int32) * x1)) + (1 : Int32)) 270) (some (I 89 (((61 : Int32) + ((3 : Int32) * x1)) + (1 : Int32)).toNatClampNeg))
theorem s_Model_lower {G : xG} {d : Nat} (hd : 0 ≤ d) (C : HC) (I : HI) (x1 : Int32)  (r : Int32) : M_Model_lower I x1 = some r → kM G d m_Model_lower [.ref 88, .int x1] C I 0 0 (some (.int r)) C I := by
  unfold M_Model_lower
  refine kM.of (by decide +kernel) (Nat.le_of_ble_eq_true rfl) (lv := [.ref 88, .int x1]) rfl (fun X hX hE => ?_)
  refine kx_go 1 (pc' := 1) (lv' := [.ref 88, .int x1]) (st' := [.ref 88]) hX ok_Model_lower rfl ?_
  refine kx_getp hX ok_Model_lower rfl (q := 89) (nx := 4) rfl ?_
  refine kx_go 7 (pc' := 12) (lv' := [.ref 88, .int x1]) (st' := [.int (((61 : Int32) + ((3 : Int32) * x1)) + (1 : Int32)), .ref 89]) hX ok_Model_lower rfl ?_
  refine kx_iald hX ok_Model_lower (w := 270) (nx := 13) rfl (fun b1 => ?_)
  intro h; have h := Option.some.inj h; subst h
  exact kx_iret hX hE ok_Model_lower (nx := 14) rfl rfl ⟨Nat.le_of_ble_eq_true rfl, Nat.le_of_ble_eq_true rfl⟩
def L_Model_findBelow_2  : Nat → Int32 → HI → Option (HI)
  | 0, _, _ => none
  | f + 1, x1, I => if (I 89 0) ≤ x1 then (some I) else (grd (bnd x1 8) (lt (xu I 93 x1.toNatClampNeg (0 : Int32)) fun J3 => L_Model_findBelow_2 f (x1 + (1 : Int32)) J3))
theorem s_L_Model_findBelow_2 {G : xG} {X : xC} {d : Nat} (hd : 1 ≤ d) (hX : xAmb G X m_Model_findBelow d 0 0)  (C : HC) : ∀ (f : Nat) (x1 : Int32) (I : HI) (r : HI), (kW G X m_Model_findBelow C r 0 0 25 [.ref 88, .null] []) → L_Model_findBelow_2 f x1 I = some r → kW G X m_Model_findBelow C I 0 0 2 [.ref 88, .int x1] [] := by
  intro f
  induction f with
  | zero => intro x1 I r hk h; rw [L_Model_findBelow_2] at h; cases h
  | succ f ih =>
    intro x1 I r hk
    rw [L_Model_findBelow_2]
    refine kx_go 2 (pc' := 4) (lv' := [.ref 88, .int x1]) (st' := [.ref 88, .int x1]) hX ok_Model_findBelow rfl ?_
    refine kx_getp hX ok_Model_findBelow rfl (q := 89) (nx := 7) rfl ?_
    refine kx_go 1 (pc' := 8) (lv' := [.ref 88, .int x1]) (st' := [.int (0 : Int32), .ref 89, .int x1]) hX ok_Model_findBelow rfl ?_
    refine kx_ialdc hX ok_Model_findBelow (w := 270) (nx := 9) rfl rfl (k := 0) rfl ?_
    refine kx_go 1 (pc' := if (I 89 0) ≤ x1 then 25 else 12) (lv' := [.ref 88, .int x1]) (st' := []) hX ok_Model_findBelow rfl ?_
    refine kx_ite (fun c1 => ?_) (fun c1 => ?_)
    · refine kx_weak (lv' := [.ref 88, .null]) (by simp [xsub]) ?_
      intro h; have h := Option.some.inj h; subst h
      exact hk
    · refine kx_go 1 (pc' := 13) (lv' := [.ref 88, .int x1]) (st' := [.ref 88]) hX ok_Model_findBelow rfl ?_
      refine kx_getp hX ok_Model_findBelow rfl (q := 93) (nx := 16) rfl ?_
      refine kx_go 2 (pc' := 18) (lv' := [.ref 88, .int x1]) (st' := [.int (0 : Int32), .int x1, .ref 93]) hX ok_Model_findBelow rfl ?_
      refine kx_iast hX ok_Model_findBelow (w := 8) (nx := 19) rfl (fun b2 => ?_)
      refine kx_lt (Q := fun J3 => kW G X m_Model_findBelow C J3 0 0 19 [.ref 88, .int x1] []) (fun J3 eJ3 => ?_)
      refine kx_go 2 (pc' := 2) (lv' := [.ref 88, .int (x1 + (1 : Int32))]) (st' := []) hX ok_Model_findBelow rfl ?_
      exact fun h => ih (x1 + (1 : Int32)) J3 r hk h
def L_Model_findBelow_27  : Nat → Int32 → HI → Option (HI)
  | 0, _, _ => none
  | f + 1, x1, I => if (I 89 1) ≤ x1 then (some I) else (Option.bind (M_Model_upper I x1) fun p2 => grd (bnd p2 8) (Option.bind (M_Model_lower I x1) fun p4 => lt (xu I 93 p2.toNatClampNeg ((I 93 p2.toNatClampNeg) ||| ((1 : Int32) <<< (p4 &&& (31 : Int32))))) fun J5 => L_Model_findBelow_27 f (x1 + (1 : Int32)) J5))
theorem s_L_Model_findBelow_27 {G : xG} {X : xC} {d : Nat} (hd : 1 ≤ d) (hX : xAmb G X m_Model_findBelow d 0 0)  (C : HC) : ∀ (f : Nat) (x1 : Int32) (I : HI) (r : HI), (kW G X m_Model_findBelow C r 0 0 63 [.null, .null] []) → L_Model_findBelow_27 f x1 I = some r → kW G X m_Model_findBelow C I 0 0 27 [.ref 88, .int x1] [] := by
  intro f
  induction f with
  | zero => intro x1 I r hk h; rw [L_Model_findBelow_27] at h; cases h
  | succ f ih =>
    intro x1 I r hk
    rw [L_Model_findBelow_27]
    refine kx_go 2 (pc' := 29) (lv' := [.ref 88, .int x1]) (st' := [.ref 88, .int x1]) hX ok_Model_findBelow rfl ?_
    refine kx_getp hX ok_Model_findBelow rfl (q := 89) (nx := 32) rfl ?_
    refine kx_go 1 (pc' := 33) (lv' := [.ref 88, .int x1]) (st' := [.int (1 : Int32), .ref 89, .int x1]) hX ok_Model_findBelow rfl ?_
    refine kx_ialdc hX ok_Model_findBelow (w := 270) (nx := 34) rfl rfl (k := 1) rfl ?_
    refine kx_go 1 (pc' := if (I 89 1) ≤ x1 then 63 else 37) (lv' := [.ref 88, .int x1]) (st' := []) hX ok_Model_findBelow rfl ?_
    refine kx_ite (fun c1 => ?_) (fun c1 => ?_)
    · refine kx_weak (lv' := [.null, .null]) (by simp [xsub]) ?_
      intro h; have h := Option.some.inj h; subst h
      exact hk
    · refine kx_go 1 (pc' := 38) (lv' := [.ref 88, .int x1]) (st' := [.ref 88]) hX ok_Model_findBelow rfl ?_
      refine kx_getp hX ok_Model_findBelow rfl (q := 93) (nx := 41) rfl ?_
      refine kx_go 2 (pc' := 43) (lv' := [.ref 88, .int x1]) (st' := [.int x1, .ref 88, .ref 93]) hX ok_Model_findBelow rfl ?_
      refine kx_bind (fun p2 hp2 => ?_)
      refine kx_V (r := 88) (as := [.int x1]) (by decide) hX ok_Model_findBelow (nx := 46) rfl l_Model_194 (by decide) rfl (fun _ => s_Model_upper (G := G) (d := 0) (Nat.le_refl _) C I x1 p2 hp2) (by omega) rfl (rest := [.ref 93]) rfl (Nat.le_of_ble_eq_true rfl) ⟨Nat.le_of_ble_eq_true rfl, Nat.le_of_ble_eq_true rfl⟩ ?_
      show _ → kW G X m_Model_findBelow C I 0 0 46 [.ref 88, .int x1] [.int p2, .ref 93]
      refine kx_go 1 (pc' := 47) (lv' := [.ref 88, .int x1]) (st' := [.int p2, .ref 93, .int p2, .ref 93]) hX ok_Model_findBelow rfl ?_
      refine kx_iald hX ok_Model_findBelow (w := 8) (nx := 48) rfl (fun b3 => ?_)
      refine kx_go 3 (pc' := 51) (lv' := [.ref 88, .int x1]) (st' := [.int x1, .ref 88, .int (1 : Int32), .int (I 93 p2.toNatClampNeg), .int p2, .ref 93]) hX ok_Model_findBelow rfl ?_
      refine kx_bind (fun p4 hp4 => ?_)
      refine kx_V (r := 88) (as := [.int x1]) (by decide) hX ok_Model_findBelow (nx := 54) rfl l_Model_205 (by decide) rfl (fun _ => s_Model_lower (G := G) (d := 0) (Nat.le_refl _) C I x1 p4 hp4) (by omega) rfl (rest := [.int (1 : Int32), .int (I 93 p2.toNatClampNeg), .int p2, .ref 93]) rfl (Nat.le_of_ble_eq_true rfl) ⟨Nat.le_of_ble_eq_true rfl, Nat.le_of_ble_eq_true rfl⟩ ?_
      show _ → kW G X m_Model_findBelow C I 0 0 54 [.ref 88, .int x1] [.int p4, .int (1 : Int32), .int (I 93 p2.toNatClampNeg), .int p2, .ref 93]
      refine kx_go 2 (pc' := 56) (lv' := [.ref 88, .int x1]) (st' := [.int ((I 93 p2.toNatClampNeg) ||| ((1 : Int32) <<< (p4 &&& (31 : Int32)))), .int p2, .ref 93]) hX ok_Model_findBelow rfl ?_
      refine kx_iastc hX ok_Model_findBelow (w := 8) (nx := 57) rfl b3 (k := p2.toNatClampNeg) rfl ?_
      refine kx_lt (Q := fun J5 => kW G X m_Model_findBelow C J5 0 0 57 [.ref 88, .int x1] []) (fun J5 eJ5 => ?_)
      refine kx_go 2 (pc' := 27) (lv' := [.ref 88, .int (x1 + (1 : Int32))]) (st' := []) hX ok_Model_findBelow rfl ?_
      exact fun h => ih (x1 + (1 : Int32)) J5 r hk h
def M_Model_findBelow (I : HI) : Option (HI) := Option.bind (L_Model_findBelow_2 1000 (0 : Int32) I) fun p1 => Option.bind (L_Model_findBelow_27 1000 (0 : Int32) p1) fun p2 => some p2
theorem s_Model_findBelow {G : xG} {d : Nat} (hd : 1 ≤ d) (C : HC) (I : HI)   (r : HI) : M_Model_findBelow I = some r → kM G d m_Model_findBelow [.ref 88] C I 0 0 none C r := by
  unfold M_Model_findBelow
  refine kM.of (by decide +kernel) (Nat.le_of_ble_eq_true rfl) (lv := [.ref 88, .null]) rfl (fun X hX hE => ?_)
  refine kx_go 2 (pc' := 2) (lv' := [.ref 88, .int (0 : Int32)]) (st' := []) hX ok_Model_findBelow rfl ?_
  refine kx_bind (fun p1 hp1 => ?_)
  refine kx_via (fun hk => s_L_Model_findBelow_2 (G := G) (X := X) (by omega) hX C 1000 (0 : Int32) I p1 hk hp1) ?_
  refine kx_go 2 (pc' := 27) (lv' := [.ref 88, .int (0 : Int32)]) (st' := []) hX ok_Model_findBelow rfl ?_
  refine kx_bind (fun p2 hp2 => ?_)
  refine kx_via (fun hk => s_L_Model_findBelow_27 (G := G) (X := X) (by omega) hX C 1000 (0 : Int32) p1 p2 hk hp2) ?_
  intro h; have h := Option.some.inj h; subst h
  exact kx_vret hX hE ok_Model_findBelow (nx := 64) rfl rfl ⟨Nat.le_of_ble_eq_true rfl, Nat.le_of_ble_eq_true rfl⟩
def M_Model_allStrokes (I : HI) : Int32 := (((1 : Int32) <<< ((I 89 0) &&& (31 : Int32))) - (1 : Int32))
theorem s_Model_allStrokes {G : xG} {d : Nat} (hd : 0 ≤ d) (C : HC) (I : HI)   (r : Int32) : M_Model_allStrokes I = r → kM G d m_Model_allStrokes [.ref 88] C I 0 0 (some (.int r)) C I := by
  unfold M_Model_allStrokes
  refine kM.of (by decide +kernel) (Nat.le_of_ble_eq_true rfl) (lv := [.ref 88]) rfl (fun X hX hE => ?_)
  refine kx_go 2 (pc' := 2) (lv' := [.ref 88]) (st' := [.ref 88, .int (1 : Int32)]) hX ok_Model_allStrokes rfl ?_
  refine kx_getp hX ok_Model_allStrokes rfl (q := 89) (nx := 5) rfl ?_
  refine kx_go 1 (pc' := 6) (lv' := [.ref 88]) (st' := [.int (0 : Int32), .ref 89, .int (1 : Int32)]) hX ok_Model_allStrokes rfl ?_
  refine kx_ialdc hX ok_Model_allStrokes (w := 270) (nx := 7) rfl rfl (k := 0) rfl ?_
  refine kx_go 3 (pc' := 10) (lv' := [.ref 88]) (st' := [.int (((1 : Int32) <<< ((I 89 0) &&& (31 : Int32))) - (1 : Int32))]) hX ok_Model_allStrokes rfl ?_
  rintro rfl
  exact kx_iret hX hE ok_Model_allStrokes (nx := 11) rfl rfl ⟨Nat.le_of_ble_eq_true rfl, Nat.le_of_ble_eq_true rfl⟩
def M_Model_mayLie (I : HI) (x1 : Int32) (x2 : Int32) : Option (Int32) := if ((x2 >>> (x1 &&& (31 : Int32))) &&& (1 : Int32)) = (0 : Int32) then (grd (bnd x1 8) (if ((I 93 x1.toNatClampNeg) &&& (x2 ^^^ (-1 : Int32))) = (0 : Int32) then (some (1 : Int32)) else (some (0 : Int32)))) else (some (0 : Int32))
theorem s_Model_mayLie {G : xG} {d : Nat} (hd : 0 ≤ d) (C : HC) (I : HI) (x1 : Int32) (x2 : Int32)  (r : Int32) : M_Model_mayLie I x1 x2 = some r → kM G d m_Model_mayLie [.ref 88, .int x1, .int x2] C I 0 0 (some (.int r)) C I := by
  unfold M_Model_mayLie
  refine kM.of (by decide +kernel) (Nat.le_of_ble_eq_true rfl) (lv := [.ref 88, .int x1, .int x2]) rfl (fun X hX hE => ?_)
  refine kx_go 6 (pc' := if ((x2 >>> (x1 &&& (31 : Int32))) &&& (1 : Int32)) = (0 : Int32) then 8 else 25) (lv' := [.ref 88, .int x1, .int x2]) (st' := []) hX ok_Model_mayLie rfl ?_
  refine kx_ite (fun c1 => ?_) (fun c1 => ?_)
  · refine kx_go 1 (pc' := 9) (lv' := [.ref 88, .int x1, .int x2]) (st' := [.ref 88]) hX ok_Model_mayLie rfl ?_
    refine kx_getp hX ok_Model_mayLie rfl (q := 93) (nx := 12) rfl ?_
    refine kx_go 1 (pc' := 13) (lv' := [.ref 88, .int x1, .int x2]) (st' := [.int x1, .ref 93]) hX ok_Model_mayLie rfl ?_
    refine kx_iald hX ok_Model_mayLie (w := 8) (nx := 14) rfl (fun b2 => ?_)
    refine kx_go 5 (pc' := if ((I 93 x1.toNatClampNeg) &&& (x2 ^^^ (-1 : Int32))) = (0 : Int32) then 21 else 25) (lv' := [.ref 88, .int x1, .int x2]) (st' := []) hX ok_Model_mayLie rfl ?_
    refine kx_ite (fun c3 => ?_) (fun c3 => ?_)
    · refine kx_go 2 (pc' := 26) (lv' := [.ref 88, .int x1, .int x2]) (st' := [.int (1 : Int32)]) hX ok_Model_mayLie rfl ?_
      intro h; have h := Option.some.inj h; subst h
      exact kx_zret hX hE ok_Model_mayLie (nx := 27) rfl rfl (Or.inr rfl) ⟨Nat.le_of_ble_eq_true rfl, Nat.le_of_ble_eq_true rfl⟩
    · refine kx_go 1 (pc' := 26) (lv' := [.ref 88, .int x1, .int x2]) (st' := [.int (0 : Int32)]) hX ok_Model_mayLie rfl ?_
      intro h; have h := Option.some.inj h; subst h
      exact kx_zret hX hE ok_Model_mayLie (nx := 27) rfl rfl (Or.inl rfl) ⟨Nat.le_of_ble_eq_true rfl, Nat.le_of_ble_eq_true rfl⟩
  · refine kx_go 1 (pc' := 26) (lv' := [.ref 88, .int x1, .int x2]) (st' := [.int (0 : Int32)]) hX ok_Model_mayLie rfl ?_
    intro h; have h := Option.some.inj h; subst h
    exact kx_zret hX hE ok_Model_mayLie (nx := 27) rfl rfl (Or.inl rfl) ⟨Nat.le_of_ble_eq_true rfl, Nat.le_of_ble_eq_true rfl⟩
def L_Model_countWays_11 (x1 : Int32) : Nat → Int32 → HI → Option (HI)
  | 0, _, _ => none
  | f + 1, x2, I => if x1 < x2 then (some I) else (if x2 = (0 : Int32) then (grd (bnd x2 256) (lt (xu I 94 x2.toNatClampNeg (1 : Int32)) fun J4 => if x2 = x1 then (lt (xu J4 95 x2.toNatClampNeg (1 : Int32)) fun J6 => L_Model_countWays_11 x1 f (x2 + (1 : Int32)) J6) else (lt (xu J4 95 x2.toNatClampNeg (0 : Int32)) fun J7 => L_Model_countWays_11 x1 f (x2 + (1 : Int32)) J7))) else (grd (bnd x2 256) (lt (xu I 94 x2.toNatClampNeg (0 : Int32)) fun J9 => if x2 = x1 then (lt (xu J9 95 x2.toNatClampNeg (1 : Int32)) fun J11 => L_Model_countWays_11 x1 f (x2 + (1 : Int32)) J11) else (lt (xu J9 95 x2.toNatClampNeg (0 : Int32)) fun J12 => L_Model_countWays_11 x1 f (x2 + (1 : Int32)) J12))))
theorem s_L_Model_countWays_11 {G : xG} {X : xC} {d : Nat} (hd : 2 ≤ d) (hX : xAmb G X m_Model_countWays d 0 0)  (C : HC) (x1 : Int32) : ∀ (f : Nat) (x2 : Int32) (I : HI) (r : HI), (kW G X m_Model_countWays C r 0 0 53 [.ref 88, .int x1, .null, .null] []) → L_Model_countWays_11 x1 f x2 I = some r → kW G X m_Model_countWays C I 0 0 11 [.ref 88, .int x1, .int x2, .null] [] := by
  intro f
  induction f with
  | zero => intro x2 I r hk h; rw [L_Model_countWays_11] at h; cases h
  | succ f ih =>
    intro x2 I r hk
    rw [L_Model_countWays_11]
    refine kx_go 3 (pc' := if x1 < x2 then 53 else 16) (lv' := [.ref 88, .int x1, .int x2, .null]) (st' := []) hX ok_Model_countWays rfl ?_
    refine kx_ite (fun c1 => ?_) (fun c1 => ?_)
    · refine kx_weak (lv' := [.ref 88, .int x1, .null, .null]) (by simp [xsub]) ?_
      intro h; have h := Option.some.inj h; subst h
      exact hk
    · refine kx_go 1 (pc' := 17) (lv' := [.ref 88, .int x1, .int x2, .null]) (st' := [.ref 88]) hX ok_Model_countWays rfl ?_
      refine kx_getp hX ok_Model_countWays rfl (q := 94) (nx := 20) rfl ?_
      refine kx_go 3 (pc' := if x2 = (0 : Int32) then 25 else 29) (lv' := [.ref 88, .int x1, .int x2, .null]) (st' := [.int x2, .ref 94]) hX ok_Model_countWays rfl ?_
      refine kx_ite (fun c2 => ?_) (fun c2 => ?_)
      · refine kx_go 2 (pc' := 30) (lv' := [.ref 88, .int x1, .int x2, .null]) (st' := [.int (1 : Int32), .int x2, .ref 94]) hX ok_Model_countWays rfl ?_
        refine kx_iast hX ok_Model_countWays (w := 256) (nx := 31) rfl (fun b3 => ?_)
        refine kx_lt (Q := fun J4 => kW G X m_Model_countWays C J4 0 0 31 [.ref 88, .int x1, .int x2, .null] []) (fun J4 eJ4 => ?_)
        refine kx_go 1 (pc' := 32) (lv' := [.ref 88, .int x1, .int x2, .null]) (st' := [.ref 88]) hX ok_Model_countWays rfl ?_
        refine kx_getp hX ok_Model_countWays rfl (q := 95) (nx := 35) rfl ?_
        refine kx_go 4 (pc' := if x2 = x1 then 41 else 45) (lv' := [.ref 88, .int x1, .int x2, .null]) (st' := [.int x2, .ref 95]) hX ok_Model_countWays rfl ?_
        refine kx_ite (fun c5 => ?_) (fun c5 => ?_)
        · refine kx_go 2 (pc' := 46) (lv' := [.ref 88, .int x1, .int x2, .null]) (st' := [.int (1 : Int32), .int x2, .ref 95]) hX ok_Model_countWays rfl ?_
          refine kx_iastc hX ok_Model_countWays (w := 256) (nx := 47) rfl b3 (k := x2.toNatClampNeg) rfl ?_
          refine kx_lt (Q := fun J6 => kW G X m_Model_countWays C J6 0 0 47 [.ref 88, .int x1, .int x2, .null] []) (fun J6 eJ6 => ?_)
          refine kx_go 2 (pc' := 11) (lv' := [.ref 88, .int x1, .int (x2 + (1 : Int32)), .null]) (st' := []) hX ok_Model_countWays rfl ?_
          exact fun h => ih (x2 + (1 : Int32)) J6 r hk h
        · refine kx_go 1 (pc' := 46) (lv' := [.ref 88, .int x1, .int x2, .null]) (st' := [.int (0 : Int32), .int x2, .ref 95]) hX ok_Model_countWays rfl ?_
          refine kx_iastc hX ok_Model_countWays (w := 256) (nx := 47) rfl b3 (k := x2.toNatClampNeg) rfl ?_
          refine kx_lt (Q := fun J7 => kW G X m_Model_countWays C J7 0 0 47 [.ref 88, .int x1, .int x2, .null] []) (fun J7 eJ7 => ?_)
          refine kx_go 2 (pc' := 11) (lv' := [.ref 88, .int x1, .int (x2 + (1 : Int32)), .null]) (st' := []) hX ok_Model_countWays rfl ?_
          exact fun h => ih (x2 + (1 : Int32)) J7 r hk h
      · refine kx_go 1 (pc' := 30) (lv' := [.ref 88, .int x1, .int x2, .null]) (st' := [.int (0 : Int32), .int x2, .ref 94]) hX ok_Model_countWays rfl ?_
        refine kx_iast hX ok_Model_countWays (w := 256) (nx := 31) rfl (fun b8 => ?_)
        refine kx_lt (Q := fun J9 => kW G X m_Model_countWays C J9 0 0 31 [.ref 88, .int x1, .int x2, .null] []) (fun J9 eJ9 => ?_)
        refine kx_go 1 (pc' := 32) (lv' := [.ref 88, .int x1, .int x2, .null]) (st' := [.ref 88]) hX ok_Model_countWays rfl ?_
        refine kx_getp hX ok_Model_countWays rfl (q := 95) (nx := 35) rfl ?_
        refine kx_go 4 (pc' := if x2 = x1 then 41 else 45) (lv' := [.ref 88, .int x1, .int x2, .null]) (st' := [.int x2, .ref 95]) hX ok_Model_countWays rfl ?_
        refine kx_ite (fun c10 => ?_) (fun c10 => ?_)
        · refine kx_go 2 (pc' := 46) (lv' := [.ref 88, .int x1, .int x2, .null]) (st' := [.int (1 : Int32), .int x2, .ref 95]) hX ok_Model_countWays rfl ?_
          refine kx_iastc hX ok_Model_countWays (w := 256) (nx := 47) rfl b8 (k := x2.toNatClampNeg) rfl ?_
          refine kx_lt (Q := fun J11 => kW G X m_Model_countWays C J11 0 0 47 [.ref 88, .int x1, .int x2, .null] []) (fun J11 eJ11 => ?_)
          refine kx_go 2 (pc' := 11) (lv' := [.ref 88, .int x1, .int (x2 + (1 : Int32)), .null]) (st' := []) hX ok_Model_countWays rfl ?_
          exact fun h => ih (x2 + (1 : Int32)) J11 r hk h
        · refine kx_go 1 (pc' := 46) (lv' := [.ref 88, .int x1, .int x2, .null]) (st' := [.int (0 : Int32), .int x2, .ref 95]) hX ok_Model_countWays rfl ?_
          refine kx_iastc hX ok_Model_countWays (w := 256) (nx := 47) rfl b8 (k := x2.toNatClampNeg) rfl ?_
          refine kx_lt (Q := fun J12 => kW G X m_Model_countWays C J12 0 0 47 [.ref 88, .int x1, .int x2, .null] []) (fun J12 eJ12 => ?_)
          refine kx_go 2 (pc' := 11) (lv' := [.ref 88, .int x1, .int (x2 + (1 : Int32)), .null]) (st' := []) hX ok_Model_countWays rfl ?_
          exact fun h => ih (x2 + (1 : Int32)) J12 r hk h
def L_Model_countWays_62 (x1 : Int32) (x2 : Int32) : Nat → Int32 → HI → Option (HI)
  | 0, _, _ => none
  | f + 1, x3, I => if (I 89 0) ≤ x3 then (some I) else (Option.bind (M_Model_mayLie I x3 x2) fun p2 => if p2 = (0 : Int32) then (L_Model_countWays_62 x1 x2 f (x3 + (1 : Int32)) I) else (grd (bnd (x2 ||| ((1 : Int32) <<< (x3 &&& (31 : Int32)))) 256) (grd (bnd x2 256) (lt (xu I 94 (x2 ||| ((1 : Int32) <<< (x3 &&& (31 : Int32)))).toNatClampNeg ((I 94 (x2 ||| ((1 : Int32) <<< (x3 &&& (31 : Int32)))).toNatClampNeg) + (I 94 x2.toNatClampNeg))) fun J6 => L_Model_countWays_62 x1 x2 f (x3 + (1 : Int32)) J6))))
theorem s_L_Model_countWays_62 {G : xG} {X : xC} {d : Nat} (hd : 2 ≤ d) (hX : xAmb G X m_Model_countWays d 0 0)  (C : HC) (x1 : Int32) (x2 : Int32) : ∀ (f : Nat) (x3 : Int32) (I : HI) (r : HI), (kW G X m_Model_countWays C r 0 0 106 [.ref 88, .int x1, .int x2, .null] []) → L_Model_countWays_62 x1 x2 f x3 I = some r → kW G X m_Model_countWays C I 0 0 62 [.ref 88, .int x1, .int x2, .int x3] [] := by
  intro f
  induction f with
  | zero => intro x3 I r hk h; rw [L_Model_countWays_62] at h; cases h
  | succ f ih =>
    intro x3 I r hk
    rw [L_Model_countWays_62]
    refine kx_go 2 (pc' := 64) (lv' := [.ref 88, .int x1, .int x2, .int x3]) (st' := [.ref 88, .int x3]) hX ok_Model_countWays rfl ?_
    refine kx_getp hX ok_Model_countWays rfl (q := 89) (nx := 67) rfl ?_
    refine kx_go 1 (pc' := 68) (lv' := [.ref 88, .int x1, .int x2, .int x3]) (st' := [.int (0 : Int32), .ref 89, .int x3]) hX ok_Model_countWays rfl ?_
    refine kx_ialdc hX ok_Model_countWays (w := 270) (nx := 69) rfl rfl (k := 0) rfl ?_
    refine kx_go 1 (pc' := if (I 89 0) ≤ x3 then 106 else 72) (lv' := [.ref 88, .int x1, .int x2, .int x3]) (st' := []) hX ok_Model_countWays rfl ?_
    refine kx_ite (fun c1 => ?_) (fun c1 => ?_)
    · refine kx_weak (lv' := [.ref 88, .int x1, .int x2, .null]) (by simp [xsub]) ?_
      intro h; have h := Option.some.inj h; subst h
      exact hk
    · refine kx_go 3 (pc' := 75) (lv' := [.ref 88, .int x1, .int x2, .int x3]) (st' := [.int x2, .int x3, .ref 88]) hX ok_Model_countWays rfl ?_
      refine kx_bind (fun p2 hp2 => ?_)
      refine kx_V (r := 88) (as := [.int x3, .int x2]) (by decide) hX ok_Model_countWays (nx := 78) rfl l_Model_214 (by decide) rfl (fun _ => s_Model_mayLie (G := G) (d := 0) (Nat.le_refl _) C I x3 x2 p2 hp2) (by omega) rfl (rest := []) rfl (Nat.le_of_ble_eq_true rfl) ⟨Nat.le_of_ble_eq_true rfl, Nat.le_of_ble_eq_true rfl⟩ ?_
      show _ → kW G X m_Model_countWays C I 0 0 78 [.ref 88, .int x1, .int x2, .int x3] [.int p2]
      refine kx_go 1 (pc' := if p2 = (0 : Int32) then 100 else 81) (lv' := [.ref 88, .int x1, .int x2, .int x3]) (st' := []) hX ok_Model_countWays rfl ?_
      refine kx_ite (fun c3 => ?_) (fun c3 => ?_)
      · refine kx_go 2 (pc' := 62) (lv' := [.ref 88, .int x1, .int x2, .int (x3 + (1 : Int32))]) (st' := []) hX ok_Model_countWays rfl ?_
        exact fun h => ih (x3 + (1 : Int32)) I r hk h
      · refine kx_go 1 (pc' := 82) (lv' := [.ref 88, .int x1, .int x2, .int x3]) (st' := [.ref 88]) hX ok_Model_countWays rfl ?_
        refine kx_getp hX ok_Model_countWays rfl (q := 94) (nx := 85) rfl ?_
        refine kx_go 6 (pc' := 91) (lv' := [.ref 88, .int x1, .int x2, .int x3]) (st' := [.int (x2 ||| ((1 : Int32) <<< (x3 &&& (31 : Int32)))), .ref 94, .int (x2 ||| ((1 : Int32) <<< (x3 &&& (31 : Int32)))), .ref 94]) hX ok_Model_countWays rfl ?_
        refine kx_iald hX ok_Model_countWays (w := 256) (nx := 92) rfl (fun b4 => ?_)
        refine kx_go 1 (pc' := 93) (lv' := [.ref 88, .int x1, .int x2, .int x3]) (st' := [.ref 88, .int (I 94 (x2 ||| ((1 : Int32) <<< (x3 &&& (31 : Int32)))).toNatClampNeg), .int (x2 ||| ((1 : Int32) <<< (x3 &&& (31 : Int32)))), .ref 94]) hX ok_Model_countWays rfl ?_
        refine kx_getp hX ok_Model_countWays rfl (q := 94) (nx := 96) rfl ?_
        refine kx_go 1 (pc' := 97) (lv' := [.ref 88, .int x1, .int x2, .int x3]) (st' := [.int x2, .ref 94, .int (I 94 (x2 ||| ((1 : Int32) <<< (x3 &&& (31 : Int32)))).toNatClampNeg), .int (x2 ||| ((1 : Int32) <<< (x3 &&& (31 : Int32)))), .ref 94]) hX ok_Model_countWays rfl ?_
        refine kx_iald hX ok_Model_countWays (w := 256) (nx := 98) rfl (fun b5 => ?_)
        refine kx_go 1 (pc' := 99) (lv' := [.ref 88, .int x1, .int x2, .int x3]) (st' := [.int ((I 94 (x2 ||| ((1 : Int32) <<< (x3 &&& (31 : Int32)))).toNatClampNeg) + (I 94 x2.toNatClampNeg)), .int (x2 ||| ((1 : Int32) <<< (x3 &&& (31 : Int32)))), .ref 94]) hX ok_Model_countWays rfl ?_
        refine kx_iastc hX ok_Model_countWays (w := 256) (nx := 100) rfl b4 (k := (x2 ||| ((1 : Int32) <<< (x3 &&& (31 : Int32)))).toNatClampNeg) rfl ?_
        refine kx_lt (Q := fun J6 => kW G X m_Model_countWays C J6 0 0 100 [.ref 88, .int x1, .int x2, .int x3] []) (fun J6 eJ6 => ?_)
        refine kx_go 2 (pc' := 62) (lv' := [.ref 88, .int x1, .int x2, .int (x3 + (1 : Int32))]) (st' := []) hX ok_Model_countWays rfl ?_
        exact fun h => ih (x3 + (1 : Int32)) J6 r hk h
def L_Model_countWays_55 (x1 : Int32) : Nat → Int32 → HI → Option (HI)
  | 0, _, _ => none
  | f + 1, x2, I => if x1 < x2 then (some I) else (Option.bind (L_Model_countWays_62 x1 x2 1000 (0 : Int32) I) fun p2 => L_Model_countWays_55 x1 f (x2 + (1 : Int32)) p2)
theorem s_L_Model_countWays_55 {G : xG} {X : xC} {d : Nat} (hd : 2 ≤ d) (hX : xAmb G X m_Model_countWays d 0 0)  (C : HC) (x1 : Int32) : ∀ (f : Nat) (x2 : Int32) (I : HI) (r : HI), (kW G X m_Model_countWays C r 0 0 112 [.ref 88, .int x1, .null, .null] []) → L_Model_countWays_55 x1 f x2 I = some r → kW G X m_Model_countWays C I 0 0 55 [.ref 88, .int x1, .int x2, .null] [] := by
  intro f
  induction f with
  | zero => intro x2 I r hk h; rw [L_Model_countWays_55] at h; cases h
  | succ f ih =>
    intro x2 I r hk
    rw [L_Model_countWays_55]
    refine kx_go 3 (pc' := if x1 < x2 then 112 else 60) (lv' := [.ref 88, .int x1, .int x2, .null]) (st' := []) hX ok_Model_countWays rfl ?_
    refine kx_ite (fun c1 => ?_) (fun c1 => ?_)
    · refine kx_weak (lv' := [.ref 88, .int x1, .null, .null]) (by simp [xsub]) ?_
      intro h; have h := Option.some.inj h; subst h
      exact hk
    · refine kx_go 2 (pc' := 62) (lv' := [.ref 88, .int x1, .int x2, .int (0 : Int32)]) (st' := []) hX ok_Model_countWays rfl ?_
      refine kx_bind (fun p2 hp2 => ?_)
      refine kx_via (fun hk => s_L_Model_countWays_62 (G := G) (X := X) (by omega) hX C x1 x2 1000 (0 : Int32) I p2 hk hp2) ?_
      refine kx_go 2 (pc' := 55) (lv' := [.ref 88, .int x1, .int (x2 + (1 : Int32)), .null]) (st' := []) hX ok_Model_countWays rfl ?_
      exact fun h => ih (x2 + (1 : Int32)) p2 r hk h
def L_Model_countWays_120 (x2 : Int32) : Nat → Int32 → HI → Option (HI)
  | 0, _, _ => none
  | f + 1, x3, I => if (I 89 0) ≤ x3 then (some I) else (Option.bind (M_Model_mayLie I x3 x2) fun p2 => if p2 = (0 : Int32) then (L_Model_countWays_120 x2 f (x3 + (1 : Int32)) I) else (grd (bnd x2 256) (grd (bnd (x2 ||| ((1 : Int32) <<< (x3 &&& (31 : Int32)))) 256) (lt (xu I 95 x2.toNatClampNeg ((I 95 x2.toNatClampNeg) + (I 95 (x2 ||| ((1 : Int32) <<< (x3 &&& (31 : Int32)))).toNatClampNeg))) fun J6 => L_Model_countWays_120 x2 f (x3 + (1 : Int32)) J6))))
theorem s_L_Model_countWays_120 {G : xG} {X : xC} {d : Nat} (hd : 2 ≤ d) (hX : xAmb G X m_Model_countWays d 0 0)  (C : HC) (x2 : Int32) : ∀ (f : Nat) (x3 : Int32) (I : HI) (r : HI), (kW G X m_Model_countWays C r 0 0 164 [.ref 88, .null, .int x2, .null] []) → L_Model_countWays_120 x2 f x3 I = some r → kW G X m_Model_countWays C I 0 0 120 [.ref 88, .null, .int x2, .int x3] [] := by
  intro f
  induction f with
  | zero => intro x3 I r hk h; rw [L_Model_countWays_120] at h; cases h
  | succ f ih =>
    intro x3 I r hk
    rw [L_Model_countWays_120]
    refine kx_go 2 (pc' := 122) (lv' := [.ref 88, .null, .int x2, .int x3]) (st' := [.ref 88, .int x3]) hX ok_Model_countWays rfl ?_
    refine kx_getp hX ok_Model_countWays rfl (q := 89) (nx := 125) rfl ?_
    refine kx_go 1 (pc' := 126) (lv' := [.ref 88, .null, .int x2, .int x3]) (st' := [.int (0 : Int32), .ref 89, .int x3]) hX ok_Model_countWays rfl ?_
    refine kx_ialdc hX ok_Model_countWays (w := 270) (nx := 127) rfl rfl (k := 0) rfl ?_
    refine kx_go 1 (pc' := if (I 89 0) ≤ x3 then 164 else 130) (lv' := [.ref 88, .null, .int x2, .int x3]) (st' := []) hX ok_Model_countWays rfl ?_
    refine kx_ite (fun c1 => ?_) (fun c1 => ?_)
    · refine kx_weak (lv' := [.ref 88, .null, .int x2, .null]) (by simp [xsub]) ?_
      intro h; have h := Option.some.inj h; subst h
      exact hk
    · refine kx_go 3 (pc' := 133) (lv' := [.ref 88, .null, .int x2, .int x3]) (st' := [.int x2, .int x3, .ref 88]) hX ok_Model_countWays rfl ?_
      refine kx_bind (fun p2 hp2 => ?_)
      refine kx_V (r := 88) (as := [.int x3, .int x2]) (by decide) hX ok_Model_countWays (nx := 136) rfl l_Model_214 (by decide) rfl (fun _ => s_Model_mayLie (G := G) (d := 0) (Nat.le_refl _) C I x3 x2 p2 hp2) (by omega) rfl (rest := []) rfl (Nat.le_of_ble_eq_true rfl) ⟨Nat.le_of_ble_eq_true rfl, Nat.le_of_ble_eq_true rfl⟩ ?_
      show _ → kW G X m_Model_countWays C I 0 0 136 [.ref 88, .null, .int x2, .int x3] [.int p2]
      refine kx_go 1 (pc' := if p2 = (0 : Int32) then 158 else 139) (lv' := [.ref 88, .null, .int x2, .int x3]) (st' := []) hX ok_Model_countWays rfl ?_
      refine kx_ite (fun c3 => ?_) (fun c3 => ?_)
      · refine kx_go 2 (pc' := 120) (lv' := [.ref 88, .null, .int x2, .int (x3 + (1 : Int32))]) (st' := []) hX ok_Model_countWays rfl ?_
        exact fun h => ih (x3 + (1 : Int32)) I r hk h
      · refine kx_go 1 (pc' := 140) (lv' := [.ref 88, .null, .int x2, .int x3]) (st' := [.ref 88]) hX ok_Model_countWays rfl ?_
        refine kx_getp hX ok_Model_countWays rfl (q := 95) (nx := 143) rfl ?_
        refine kx_go 2 (pc' := 145) (lv' := [.ref 88, .null, .int x2, .int x3]) (st' := [.int x2, .ref 95, .int x2, .ref 95]) hX ok_Model_countWays rfl ?_
        refine kx_iald hX ok_Model_countWays (w := 256) (nx := 146) rfl (fun b4 => ?_)
        refine kx_go 1 (pc' := 147) (lv' := [.ref 88, .null, .int x2, .int x3]) (st' := [.ref 88, .int (I 95 x2.toNatClampNeg), .int x2, .ref 95]) hX ok_Model_countWays rfl ?_
        refine kx_getp hX ok_Model_countWays rfl (q := 95) (nx := 150) rfl ?_
        refine kx_go 5 (pc' := 155) (lv' := [.ref 88, .null, .int x2, .int x3]) (st' := [.int (x2 ||| ((1 : Int32) <<< (x3 &&& (31 : Int32)))), .ref 95, .int (I 95 x2.toNatClampNeg), .int x2, .ref 95]) hX ok_Model_countWays rfl ?_
        refine kx_iald hX ok_Model_countWays (w := 256) (nx := 156) rfl (fun b5 => ?_)
        refine kx_go 1 (pc' := 157) (lv' := [.ref 88, .null, .int x2, .int x3]) (st' := [.int ((I 95 x2.toNatClampNeg) + (I 95 (x2 ||| ((1 : Int32) <<< (x3 &&& (31 : Int32)))).toNatClampNeg)), .int x2, .ref 95]) hX ok_Model_countWays rfl ?_
        refine kx_iastc hX ok_Model_countWays (w := 256) (nx := 158) rfl b4 (k := x2.toNatClampNeg) rfl ?_
        refine kx_lt (Q := fun J6 => kW G X m_Model_countWays C J6 0 0 158 [.ref 88, .null, .int x2, .int x3] []) (fun J6 eJ6 => ?_)
        refine kx_go 2 (pc' := 120) (lv' := [.ref 88, .null, .int x2, .int (x3 + (1 : Int32))]) (st' := []) hX ok_Model_countWays rfl ?_
        exact fun h => ih (x3 + (1 : Int32)) J6 r hk h
def L_Model_countWays_114  : Nat → Int32 → HI → Option (HI)
  | 0, _, _ => none
  | f + 1, x2, I => if x2 < (0 : Int32) then (some I) else (Option.bind (L_Model_countWays_120 x2 1000 (0 : Int32) I) fun p2 => L_Model_countWays_114 f (x2 + (-1 : Int32)) p2)
theorem s_L_Model_countWays_114 {G : xG} {X : xC} {d : Nat} (hd : 2 ≤ d) (hX : xAmb G X m_Model_countWays d 0 0)  (C : HC) : ∀ (f : Nat) (x2 : Int32) (I : HI) (r : HI), (kW G X m_Model_countWays C r 0 0 170 [.null, .null, .null, .null] []) → L_Model_countWays_114 f x2 I = some r → kW G X m_Model_countWays C I 0 0 114 [.ref 88, .null, .int x2, .null] [] := by
  intro f
  induction f with
  | zero => intro x2 I r hk h; rw [L_Model_countWays_114] at h; cases h
  | succ f ih =>
    intro x2 I r hk
    rw [L_Model_countWays_114]
    refine kx_go 2 (pc' := if x2 < (0 : Int32) then 170 else 118) (lv' := [.ref 88, .null, .int x2, .null]) (st' := []) hX ok_Model_countWays rfl ?_
    refine kx_ite (fun c1 => ?_) (fun c1 => ?_)
    · refine kx_weak (lv' := [.null, .null, .null, .null]) (by simp [xsub]) ?_
      intro h; have h := Option.some.inj h; subst h
      exact hk
    · refine kx_go 2 (pc' := 120) (lv' := [.ref 88, .null, .int x2, .int (0 : Int32)]) (st' := []) hX ok_Model_countWays rfl ?_
      refine kx_bind (fun p2 hp2 => ?_)
      refine kx_via (fun hk => s_L_Model_countWays_120 (G := G) (X := X) (by omega) hX C x2 1000 (0 : Int32) I p2 hk hp2) ?_
      refine kx_go 2 (pc' := 114) (lv' := [.ref 88, .null, .int (x2 + (-1 : Int32)), .null]) (st' := []) hX ok_Model_countWays rfl ?_
      exact fun h => ih (x2 + (-1 : Int32)) p2 r hk h
def M_Model_countWays (I : HI) : Option (HI) := Option.bind (M_Model_findBelow I) fun p1 => Option.bind (L_Model_countWays_11 (M_Model_allStrokes p1) 1000 (0 : Int32) p1) fun p2 => Option.bind (L_Model_countWays_55 (M_Model_allStrokes p1) 1000 (0 : Int32) p2) fun p3 => Option.bind (L_Model_countWays_114 1000 (M_Model_allStrokes p1) p3) fun p4 => some p4
theorem s_Model_countWays {G : xG} {d : Nat} (hd : 2 ≤ d) (C : HC) (I : HI)   (r : HI) : M_Model_countWays I = some r → kM G d m_Model_countWays [.ref 88] C I 0 0 none C r := by
  unfold M_Model_countWays
  refine kM.of (by decide +kernel) (Nat.le_of_ble_eq_true rfl) (lv := [.ref 88, .null, .null, .null]) rfl (fun X hX hE => ?_)
  refine kx_go 1 (pc' := 1) (lv' := [.ref 88, .null, .null, .null]) (st' := [.ref 88]) hX ok_Model_countWays rfl ?_
  refine kx_bind (fun p1 hp1 => ?_)
  refine kx_V (r := 88) (as := []) (by decide) hX ok_Model_countWays (nx := 4) rfl l_Model_208 (by decide) rfl (fun _ => s_Model_findBelow (G := G) (d := 1) (Nat.le_refl _) C I  p1 hp1) (by omega) rfl (rest := []) rfl (Nat.le_of_ble_eq_true rfl) ⟨Nat.le_of_ble_eq_true rfl, Nat.le_of_ble_eq_true rfl⟩ ?_
  show _ → kW G X m_Model_countWays C p1 0 0 4 [.ref 88, .null, .null, .null] []
  refine kx_go 1 (pc' := 5) (lv' := [.ref 88, .null, .null, .null]) (st' := [.ref 88]) hX ok_Model_countWays rfl ?_
  refine kx_V (r := 88) (as := []) (by decide) hX ok_Model_countWays (nx := 8) rfl l_Model_211 (by decide) rfl (fun _ => s_Model_allStrokes (G := G) (d := 0) (Nat.le_refl _) C p1  _ rfl) (by omega) rfl (rest := []) rfl (Nat.le_of_ble_eq_true rfl) ⟨Nat.le_of_ble_eq_true rfl, Nat.le_of_ble_eq_true rfl⟩ ?_
  show _ → kW G X m_Model_countWays C p1 0 0 8 [.ref 88, .null, .null, .null] [.int (M_Model_allStrokes p1)]
  refine kx_go 3 (pc' := 11) (lv' := [.ref 88, .int (M_Model_allStrokes p1), .int (0 : Int32), .null]) (st' := []) hX ok_Model_countWays rfl ?_
  refine kx_bind (fun p2 hp2 => ?_)
  refine kx_via (fun hk => s_L_Model_countWays_11 (G := G) (X := X) (by omega) hX C (M_Model_allStrokes p1) 1000 (0 : Int32) p1 p2 hk hp2) ?_
  refine kx_go 2 (pc' := 55) (lv' := [.ref 88, .int (M_Model_allStrokes p1), .int (0 : Int32), .null]) (st' := []) hX ok_Model_countWays rfl ?_
  refine kx_bind (fun p3 hp3 => ?_)
  refine kx_via (fun hk => s_L_Model_countWays_55 (G := G) (X := X) (by omega) hX C (M_Model_allStrokes p1) 1000 (0 : Int32) p2 p3 hk hp3) ?_
  refine kx_go 2 (pc' := 114) (lv' := [.ref 88, .int (M_Model_allStrokes p1), .int (M_Model_allStrokes p1), .null]) (st' := []) hX ok_Model_countWays rfl ?_
  refine kx_weak (lv' := [.ref 88, .null, .int (M_Model_allStrokes p1), .null]) (by simp [xsub]) ?_
  refine kx_bind (fun p4 hp4 => ?_)
  refine kx_via (fun hk => s_L_Model_countWays_114 (G := G) (X := X) (by omega) hX C 1000 (M_Model_allStrokes p1) p3 p4 hk hp4) ?_
  intro h; have h := Option.some.inj h; subst h
  exact kx_vret hX hE ok_Model_countWays (nx := 171) rfl rfl ⟨Nat.le_of_ble_eq_true rfl, Nat.le_of_ble_eq_true rfl⟩
def M_Model_orders (I : HI) : Option (Int32 × HI) := Option.bind (M_Model_countWays I) fun p1 => grd (bnd (M_Model_allStrokes p1) 256) (some ((p1 94 (M_Model_allStrokes p1).toNatClampNeg), p1))
theorem s_Model_orders {G : xG} {d : Nat} (hd : 3 ≤ d) (C : HC) (I : HI)   (r : Int32 × HI) : M_Model_orders I = some r → kM G d m_Model_orders [.ref 88] C I 0 0 (some (.int r.1)) C r.2 := by
  unfold M_Model_orders
  refine kM.of (by decide +kernel) (Nat.le_of_ble_eq_true rfl) (lv := [.ref 88]) rfl (fun X hX hE => ?_)
  refine kx_go 1 (pc' := 1) (lv' := [.ref 88]) (st' := [.ref 88]) hX ok_Model_orders rfl ?_
  refine kx_bind (fun p1 hp1 => ?_)
  refine kx_V (r := 88) (as := []) (by decide) hX ok_Model_orders (nx := 4) rfl l_Model_218 (by decide) rfl (fun _ => s_Model_countWays (G := G) (d := 2) (Nat.le_refl _) C I  p1 hp1) (by omega) rfl (rest := []) rfl (Nat.le_of_ble_eq_true rfl) ⟨Nat.le_of_ble_eq_true rfl, Nat.le_of_ble_eq_true rfl⟩ ?_
  show _ → kW G X m_Model_orders C p1 0 0 4 [.ref 88] []
  refine kx_go 1 (pc' := 5) (lv' := [.ref 88]) (st' := [.ref 88]) hX ok_Model_orders rfl ?_
  refine kx_getp hX ok_Model_orders rfl (q := 94) (nx := 8) rfl ?_
  refine kx_go 1 (pc' := 9) (lv' := [.ref 88]) (st' := [.ref 88, .ref 94]) hX ok_Model_orders rfl ?_
  refine kx_V (r := 88) (as := []) (by decide) hX ok_Model_orders (nx := 12) rfl l_Model_211 (by decide) rfl (fun _ => s_Model_allStrokes (G := G) (d := 0) (Nat.le_refl _) C p1  _ rfl) (by omega) rfl (rest := [.ref 94]) rfl (Nat.le_of_ble_eq_true rfl) ⟨Nat.le_of_ble_eq_true rfl, Nat.le_of_ble_eq_true rfl⟩ ?_
  show _ → kW G X m_Model_orders C p1 0 0 12 [.ref 88] [.int (M_Model_allStrokes p1), .ref 94]
  refine kx_iald hX ok_Model_orders (w := 256) (nx := 13) rfl (fun b2 => ?_)
  intro h; have h := Option.some.inj h; subst h
  exact kx_iret hX hE ok_Model_orders (nx := 14) rfl rfl ⟨Nat.le_of_ble_eq_true rfl, Nat.le_of_ble_eq_true rfl⟩
def L_Model_sure_47 (x1 : Int32) (x2 : Int32) (x3 : Int32) (I : HI) : Nat → Int32 → Int32 → Option (Int32)
  | 0, _, _ => none
  | f + 1, x4, x5 => if (M_Model_allStrokes I) < x5 then (some x4) else (if ((x5 >>> (x2 &&& (31 : Int32))) &&& (1 : Int32)) = (1 : Int32) then (Option.bind (M_Model_mayLie I x1 x5) fun p3 => if p3 = (0 : Int32) then (L_Model_sure_47 x1 x2 x3 I f (x4 + (0 : Int32)) (x5 + (1 : Int32))) else (grd (bnd x5 256) (grd (bnd (x5 ||| ((1 : Int32) <<< (x1 &&& (31 : Int32)))) 256) (lt (x4 + ((I 94 x5.toNatClampNeg) * (I 95 (x5 ||| ((1 : Int32) <<< (x1 &&& (31 : Int32)))).toNatClampNeg))) fun y7 => L_Model_sure_47 x1 x2 x3 I f y7 (x5 + (1 : Int32)))))) else (L_Model_sure_47 x1 x2 x3 I f (x4 + (0 : Int32)) (x5 + (1 : Int32))))
theorem s_L_Model_sure_47 {G : xG} {X : xC} {d : Nat} (hd : 3 ≤ d) (hX : xAmb G X m_Model_sure d 0 0)  (C : HC) (x1 : Int32) (x2 : Int32) (x3 : Int32) (I : HI) : ∀ (f : Nat) (x4 : Int32) (x5 : Int32) (r : Int32), (kW G X m_Model_sure C I 0 0 110 [.null, .null, .null, .int x3, .int r, .null] []) → L_Model_sure_47 x1 x2 x3 I f x4 x5 = some r → kW G X m_Model_sure C I 0 0 47 [.ref 88, .int x1, .int x2, .int x3, .int x4, .int x5] [] := by
  intro f
  induction f with
  | zero => intro x4 x5 r hk h; rw [L_Model_sure_47] at h; cases h
  | succ f ih =>
    intro x4 x5 r hk
    rw [L_Model_sure_47]
    refine kx_go 2 (pc' := 50) (lv' := [.ref 88, .int x1, .int x2, .int x3, .int x4, .int x5]) (st' := [.ref 88, .int x5]) hX ok_Model_sure rfl ?_
    refine kx_V (r := 88) (as := []) (by decide) hX ok_Model_sure (nx := 53) rfl l_Model_211 (by decide) rfl (fun _ => s_Model_allStrokes (G := G) (d := 0) (Nat.le_refl _) C I  _ rfl) (by omega) rfl (rest := [.int x5]) rfl (Nat.le_of_ble_eq_true rfl) ⟨Nat.le_of_ble_eq_true rfl, Nat.le_of_ble_eq_true rfl⟩ ?_
    show _ → kW G X m_Model_sure C I 0 0 53 [.ref 88, .int x1, .int x2, .int x3, .int x4, .int x5] [.int (M_Model_allStrokes I), .int x5]
    refine kx_go 1 (pc' := if (M_Model_allStrokes I) < x5 then 110 else 56) (lv' := [.ref 88, .int x1, .int x2, .int x3, .int x4, .int x5]) (st' := []) hX ok_Model_sure rfl ?_
    refine kx_ite (fun c1 => ?_) (fun c1 => ?_)
    · refine kx_weak (lv' := [.null, .null, .null, .int x3, .int x4, .null]) (by simp [xsub]) ?_
      intro h; have h := Option.some.inj h; subst h
      exact hk
    · refine kx_go 8 (pc' := if ((x5 >>> (x2 &&& (31 : Int32))) &&& (1 : Int32)) = (1 : Int32) then 68 else 100) (lv' := [.ref 88, .int x1, .int x2, .int x3, .int x4, .int x5]) (st' := [.int x4]) hX ok_Model_sure rfl ?_
      refine kx_ite (fun c2 => ?_) (fun c2 => ?_)
      · refine kx_go 3 (pc' := 72) (lv' := [.ref 88, .int x1, .int x2, .int x3, .int x4, .int x5]) (st' := [.int x5, .int x1, .ref 88, .int x4]) hX ok_Model_sure rfl ?_
        refine kx_bind (fun p3 hp3 => ?_)
        refine kx_V (r := 88) (as := [.int x1, .int x5]) (by decide) hX ok_Model_sure (nx := 75) rfl l_Model_214 (by decide) rfl (fun _ => s_Model_mayLie (G := G) (d := 0) (Nat.le_refl _) C I x1 x5 p3 hp3) (by omega) rfl (rest := [.int x4]) rfl (Nat.le_of_ble_eq_true rfl) ⟨Nat.le_of_ble_eq_true rfl, Nat.le_of_ble_eq_true rfl⟩ ?_
        show _ → kW G X m_Model_sure C I 0 0 75 [.ref 88, .int x1, .int x2, .int x3, .int x4, .int x5] [.int p3, .int x4]
        refine kx_go 1 (pc' := if p3 = (0 : Int32) then 100 else 78) (lv' := [.ref 88, .int x1, .int x2, .int x3, .int x4, .int x5]) (st' := [.int x4]) hX ok_Model_sure rfl ?_
        refine kx_ite (fun c4 => ?_) (fun c4 => ?_)
        · refine kx_go 5 (pc' := 47) (lv' := [.ref 88, .int x1, .int x2, .int x3, .int (x4 + (0 : Int32)), .int (x5 + (1 : Int32))]) (st' := []) hX ok_Model_sure rfl ?_
          exact fun h => ih (x4 + (0 : Int32)) (x5 + (1 : Int32)) r hk h
        · refine kx_go 1 (pc' := 79) (lv' := [.ref 88, .int x1, .int x2, .int x3, .int x4, .int x5]) (st' := [.ref 88, .int x4]) hX ok_Model_sure rfl ?_
          refine kx_getp hX ok_Model_sure rfl (q := 94) (nx := 82) rfl ?_
          refine kx_go 1 (pc' := 84) (lv' := [.ref 88, .int x1, .int x2, .int x3, .int x4, .int x5]) (st' := [.int x5, .ref 94, .int x4]) hX ok_Model_sure rfl ?_
          refine kx_iald hX ok_Model_sure (w := 256) (nx := 85) rfl (fun b5 => ?_)
          refine kx_go 1 (pc' := 86) (lv' := [.ref 88, .int x1, .int x2, .int x3, .int x4, .int x5]) (st' := [.ref 88, .int (I 94 x5.toNatClampNeg), .int x4]) hX ok_Model_sure rfl ?_
          refine kx_getp hX ok_Model_sure rfl (q := 95) (nx := 89) rfl ?_
          refine kx_go 5 (pc' := 95) (lv' := [.ref 88, .int x1, .int x2, .int x3, .int x4, .int x5]) (st' := [.int (x5 ||| ((1 : Int32) <<< (x1 &&& (31 : Int32)))), .ref 95, .int (I 94 x5.toNatClampNeg), .int x4]) hX ok_Model_sure rfl ?_
          refine kx_iald hX ok_Model_sure (w := 256) (nx := 96) rfl (fun b6 => ?_)
          refine kx_go 4 (pc' := 104) (lv' := [.ref 88, .int x1, .int x2, .int x3, .int (x4 + ((I 94 x5.toNatClampNeg) * (I 95 (x5 ||| ((1 : Int32) <<< (x1 &&& (31 : Int32)))).toNatClampNeg))), .int x5]) (st' := []) hX ok_Model_sure rfl ?_
          refine kx_lt (Q := fun y7 => kW G X m_Model_sure C I 0 0 104 [.ref 88, .int x1, .int x2, .int x3, .int y7, .int x5] []) (fun y7 ey7 => ?_)
          refine kx_go 2 (pc' := 47) (lv' := [.ref 88, .int x1, .int x2, .int x3, .int y7, .int (x5 + (1 : Int32))]) (st' := []) hX ok_Model_sure rfl ?_
          exact fun h => ih y7 (x5 + (1 : Int32)) r hk h
      · refine kx_go 5 (pc' := 47) (lv' := [.ref 88, .int x1, .int x2, .int x3, .int (x4 + (0 : Int32)), .int (x5 + (1 : Int32))]) (st' := []) hX ok_Model_sure rfl ?_
        exact fun h => ih (x4 + (0 : Int32)) (x5 + (1 : Int32)) r hk h
def M_Model_sure (I : HI) (x1 : Int32) (x2 : Int32) : Option (Int32 × HI) := if (M_Model_isStroke I x1) = (0 : Int32) then (Option.bind (M_Model_finds I (1 : Int32)) fun p2 => some (p2.1, p2.2)) else (if (M_Model_isStroke I x2) = (0 : Int32) then (Option.bind (M_Model_finds I (1 : Int32)) fun p4 => some (p4.1, p4.2)) else (if x1 = x2 then (Option.bind (M_Model_finds I (1 : Int32)) fun p6 => some (p6.1, p6.2)) else (Option.bind (M_Model_countWays I) fun p7 => grd (bnd (M_Model_allStrokes p7) 256) (Option.bind (L_Model_sure_47 x1 x2 (p7 94 (M_Model_allStrokes p7).toNatClampNeg) p7 1000 (0 : Int32) (0 : Int32)) fun p9 => if (p7 94 (M_Model_allStrokes p7).toNatClampNeg) = (0 : Int32) then (some ((0 : Int32), p7)) else (if p9 = (p7 94 (M_Model_allStrokes p7).toNatClampNeg) then (some ((1 : Int32), p7)) else (if p9 = (0 : Int32) then (some ((-1 : Int32), p7)) else (some ((0 : Int32), p7))))))))
theorem s_Model_sure {G : xG} {d : Nat} (hd : 3 ≤ d) (C : HC) (I : HI) (x1 : Int32) (x2 : Int32)  (r : Int32 × HI) : M_Model_sure I x1 x2 = some r → kM G d m_Model_sure [.ref 88, .int x1, .int x2] C I 0 0 (some (.int r.1)) C r.2 := by
  unfold M_Model_sure
  refine kM.of (by decide +kernel) (Nat.le_of_ble_eq_true rfl) (lv := [.ref 88, .int x1, .int x2, .null, .null, .null]) rfl (fun X hX hE => ?_)
  refine kx_go 2 (pc' := 2) (lv' := [.ref 88, .int x1, .int x2, .null, .null, .null]) (st' := [.int x1, .ref 88]) hX ok_Model_sure rfl ?_
  refine kx_V (r := 88) (as := [.int x1]) (by decide) hX ok_Model_sure (nx := 5) rfl l_Model_165 (by decide) rfl (fun _ => s_Model_isStroke (G := G) (d := 1) (Nat.le_refl _) C I x1 _ rfl) (by omega) rfl (rest := []) rfl (Nat.le_of_ble_eq_true rfl) ⟨Nat.le_of_ble_eq_true rfl, Nat.le_of_ble_eq_true rfl⟩ ?_
  show _ → kW G X m_Model_sure C I 0 0 5 [.ref 88, .int x1, .int x2, .null, .null, .null] [.int (M_Model_isStroke I x1)]
  refine kx_go 1 (pc' := if (M_Model_isStroke I x1) = (0 : Int32) then 21 else 8) (lv' := [.ref 88, .int x1, .int x2, .null, .null, .null]) (st' := []) hX ok_Model_sure rfl ?_
  refine kx_ite (fun c1 => ?_) (fun c1 => ?_)
  · refine kx_go 2 (pc' := 23) (lv' := [.ref 88, .int x1, .int x2, .null, .null, .null]) (st' := [.int (1 : Int32), .ref 88]) hX ok_Model_sure rfl ?_
    refine kx_bind (fun p2 hp2 => ?_)
    refine kx_V (r := 88) (as := [.int (1 : Int32)]) (by decide) hX ok_Model_sure (nx := 26) rfl l_Model_129 (by decide) rfl (fun _ => s_Model_finds (G := G) (d := 0) (Nat.le_refl _) C I (1 : Int32) p2 hp2) (by omega) rfl (rest := []) rfl (Nat.le_of_ble_eq_true rfl) ⟨Nat.le_of_ble_eq_true rfl, Nat.le_of_ble_eq_true rfl⟩ ?_
    show _ → kW G X m_Model_sure C p2.2 0 0 26 [.ref 88, .int x1, .int x2, .null, .null, .null] [.int p2.1]
    intro h; have h := Option.some.inj h; subst h
    exact kx_iret hX hE ok_Model_sure (nx := 27) rfl rfl ⟨Nat.le_of_ble_eq_true rfl, Nat.le_of_ble_eq_true rfl⟩
  · refine kx_go 2 (pc' := 10) (lv' := [.ref 88, .int x1, .int x2, .null, .null, .null]) (st' := [.int x2, .ref 88]) hX ok_Model_sure rfl ?_
    refine kx_V (r := 88) (as := [.int x2]) (by decide) hX ok_Model_sure (nx := 13) rfl l_Model_165 (by decide) rfl (fun _ => s_Model_isStroke (G := G) (d := 1) (Nat.le_refl _) C I x2 _ rfl) (by omega) rfl (rest := []) rfl (Nat.le_of_ble_eq_true rfl) ⟨Nat.le_of_ble_eq_true rfl, Nat.le_of_ble_eq_true rfl⟩ ?_
    show _ → kW G X m_Model_sure C I 0 0 13 [.ref 88, .int x1, .int x2, .null, .null, .null] [.int (M_Model_isStroke I x2)]
    refine kx_go 1 (pc' := if (M_Model_isStroke I x2) = (0 : Int32) then 21 else 16) (lv' := [.ref 88, .int x1, .int x2, .null, .null, .null]) (st' := []) hX ok_Model_sure rfl ?_
    refine kx_ite (fun c3 => ?_) (fun c3 => ?_)
    · refine kx_go 2 (pc' := 23) (lv' := [.ref 88, .int x1, .int x2, .null, .null, .null]) (st' := [.int (1 : Int32), .ref 88]) hX ok_Model_sure rfl ?_
      refine kx_bind (fun p4 hp4 => ?_)
      refine kx_V (r := 88) (as := [.int (1 : Int32)]) (by decide) hX ok_Model_sure (nx := 26) rfl l_Model_129 (by decide) rfl (fun _ => s_Model_finds (G := G) (d := 0) (Nat.le_refl _) C I (1 : Int32) p4 hp4) (by omega) rfl (rest := []) rfl (Nat.le_of_ble_eq_true rfl) ⟨Nat.le_of_ble_eq_true rfl, Nat.le_of_ble_eq_true rfl⟩ ?_
      show _ → kW G X m_Model_sure C p4.2 0 0 26 [.ref 88, .int x1, .int x2, .null, .null, .null] [.int p4.1]
      intro h; have h := Option.some.inj h; subst h
      exact kx_iret hX hE ok_Model_sure (nx := 27) rfl rfl ⟨Nat.le_of_ble_eq_true rfl, Nat.le_of_ble_eq_true rfl⟩
    · refine kx_go 3 (pc' := if x1 = x2 then 21 else 27) (lv' := [.ref 88, .int x1, .int x2, .null, .null, .null]) (st' := []) hX ok_Model_sure rfl ?_
      refine kx_ite (fun c5 => ?_) (fun c5 => ?_)
      · refine kx_go 2 (pc' := 23) (lv' := [.ref 88, .int x1, .int x2, .null, .null, .null]) (st' := [.int (1 : Int32), .ref 88]) hX ok_Model_sure rfl ?_
        refine kx_bind (fun p6 hp6 => ?_)
        refine kx_V (r := 88) (as := [.int (1 : Int32)]) (by decide) hX ok_Model_sure (nx := 26) rfl l_Model_129 (by decide) rfl (fun _ => s_Model_finds (G := G) (d := 0) (Nat.le_refl _) C I (1 : Int32) p6 hp6) (by omega) rfl (rest := []) rfl (Nat.le_of_ble_eq_true rfl) ⟨Nat.le_of_ble_eq_true rfl, Nat.le_of_ble_eq_true rfl⟩ ?_
        show _ → kW G X m_Model_sure C p6.2 0 0 26 [.ref 88, .int x1, .int x2, .null, .null, .null] [.int p6.1]
        intro h; have h := Option.some.inj h; subst h
        exact kx_iret hX hE ok_Model_sure (nx := 27) rfl rfl ⟨Nat.le_of_ble_eq_true rfl, Nat.le_of_ble_eq_true rfl⟩
      · refine kx_go 1 (pc' := 28) (lv' := [.ref 88, .int x1, .int x2, .null, .null, .null]) (st' := [.ref 88]) hX ok_Model_sure rfl ?_
        refine kx_bind (fun p7 hp7 => ?_)
        refine kx_V (r := 88) (as := []) (by decide) hX ok_Model_sure (nx := 31) rfl l_Model_218 (by decide) rfl (fun _ => s_Model_countWays (G := G) (d := 2) (Nat.le_refl _) C I  p7 hp7) (by omega) rfl (rest := []) rfl (Nat.le_of_ble_eq_true rfl) ⟨Nat.le_of_ble_eq_true rfl, Nat.le_of_ble_eq_true rfl⟩ ?_
        show _ → kW G X m_Model_sure C p7 0 0 31 [.ref 88, .int x1, .int x2, .null, .null, .null] []
        refine kx_go 1 (pc' := 32) (lv' := [.ref 88, .int x1, .int x2, .null, .null, .null]) (st' := [.ref 88]) hX ok_Model_sure rfl ?_
        refine kx_getp hX ok_Model_sure rfl (q := 94) (nx := 35) rfl ?_
        refine kx_go 1 (pc' := 36) (lv' := [.ref 88, .int x1, .int x2, .null, .null, .null]) (st' := [.ref 88, .ref 94]) hX ok_Model_sure rfl ?_
        refine kx_V (r := 88) (as := []) (by decide) hX ok_Model_sure (nx := 39) rfl l_Model_211 (by decide) rfl (fun _ => s_Model_allStrokes (G := G) (d := 0) (Nat.le_refl _) C p7  _ rfl) (by omega) rfl (rest := [.ref 94]) rfl (Nat.le_of_ble_eq_true rfl) ⟨Nat.le_of_ble_eq_true rfl, Nat.le_of_ble_eq_true rfl⟩ ?_
        show _ → kW G X m_Model_sure C p7 0 0 39 [.ref 88, .int x1, .int x2, .null, .null, .null] [.int (M_Model_allStrokes p7), .ref 94]
        refine kx_iald hX ok_Model_sure (w := 256) (nx := 40) rfl (fun b8 => ?_)
        refine kx_go 5 (pc' := 47) (lv' := [.ref 88, .int x1, .int x2, .int (p7 94 (M_Model_allStrokes p7).toNatClampNeg), .int (0 : Int32), .int (0 : Int32)]) (st' := []) hX ok_Model_sure rfl ?_
        refine kx_bind (fun p9 hp9 => ?_)
        refine kx_via (fun hk => s_L_Model_sure_47 (G := G) (X := X) (by omega) hX C x1 x2 (p7 94 (M_Model_allStrokes p7).toNatClampNeg) p7 1000 (0 : Int32) (0 : Int32) p9 hk hp9) ?_
        refine kx_go 2 (pc' := if (p7 94 (M_Model_allStrokes p7).toNatClampNeg) = (0 : Int32) then 114 else 118) (lv' := [.null, .null, .null, .int (p7 94 (M_Model_allStrokes p7).toNatClampNeg), .int p9, .null]) (st' := []) hX ok_Model_sure rfl ?_
        refine kx_ite (fun c10 => ?_) (fun c10 => ?_)
        · refine kx_go 2 (pc' := 138) (lv' := [.null, .null, .null, .int (p7 94 (M_Model_allStrokes p7).toNatClampNeg), .int p9, .null]) (st' := [.int (0 : Int32)]) hX ok_Model_sure rfl ?_
          intro h; have h := Option.some.inj h; subst h
          exact kx_iret hX hE ok_Model_sure (nx := 139) rfl rfl ⟨Nat.le_of_ble_eq_true rfl, Nat.le_of_ble_eq_true rfl⟩
        · refine kx_go 3 (pc' := if p9 = (p7 94 (M_Model_allStrokes p7).toNatClampNeg) then 124 else 128) (lv' := [.null, .null, .null, .int (p7 94 (M_Model_allStrokes p7).toNatClampNeg), .int p9, .null]) (st' := []) hX ok_Model_sure rfl ?_
          refine kx_ite (fun c11 => ?_) (fun c11 => ?_)
          · refine kx_go 2 (pc' := 138) (lv' := [.null, .null, .null, .int (p7 94 (M_Model_allStrokes p7).toNatClampNeg), .int p9, .null]) (st' := [.int (1 : Int32)]) hX ok_Model_sure rfl ?_
            intro h; have h := Option.some.inj h; subst h
            exact kx_iret hX hE ok_Model_sure (nx := 139) rfl rfl ⟨Nat.le_of_ble_eq_true rfl, Nat.le_of_ble_eq_true rfl⟩
          · refine kx_go 2 (pc' := if p9 = (0 : Int32) then 133 else 137) (lv' := [.null, .null, .null, .int (p7 94 (M_Model_allStrokes p7).toNatClampNeg), .int p9, .null]) (st' := []) hX ok_Model_sure rfl ?_
            refine kx_ite (fun c12 => ?_) (fun c12 => ?_)
            · refine kx_go 2 (pc' := 138) (lv' := [.null, .null, .null, .int (p7 94 (M_Model_allStrokes p7).toNatClampNeg), .int p9, .null]) (st' := [.int (-1 : Int32)]) hX ok_Model_sure rfl ?_
              intro h; have h := Option.some.inj h; subst h
              exact kx_iret hX hE ok_Model_sure (nx := 139) rfl rfl ⟨Nat.le_of_ble_eq_true rfl, Nat.le_of_ble_eq_true rfl⟩
            · refine kx_go 1 (pc' := 138) (lv' := [.null, .null, .null, .int (p7 94 (M_Model_allStrokes p7).toNatClampNeg), .int p9, .null]) (st' := [.int (0 : Int32)]) hX ok_Model_sure rfl ?_
              intro h; have h := Option.some.inj h; subst h
              exact kx_iret hX hE ok_Model_sure (nx := 139) rfl rfl ⟨Nat.le_of_ble_eq_true rfl, Nat.le_of_ble_eq_true rfl⟩
def L_Model_costs_5 (x1 : Int32) (x2 : Int32) : Nat → Int32 → Int32 → HI → Option (Int32 × HI)
  | 0, _, _, _ => none
  | f + 1, x3, x4, I => if (I 89 1) ≤ x4 then (some (x3, I)) else (Option.bind (M_Model_upper I x4) fun p2 => if p2 = x1 then (Option.bind (M_Model_lower I x4) fun p4 => if ((x2 >>> (p4 &&& (31 : Int32))) &&& (1 : Int32)) = (0 : Int32) then (Option.bind (M_Model_weightOf I x4) fun p6 => L_Model_costs_5 x1 x2 f (x3 + p6.1) (x4 + (1 : Int32)) p6.2) else (L_Model_costs_5 x1 x2 f (x3 + (0 : Int32)) (x4 + (1 : Int32)) I)) else (L_Model_costs_5 x1 x2 f (x3 + (0 : Int32)) (x4 + (1 : Int32)) I))
theorem s_L_Model_costs_5 {G : xG} {X : xC} {d : Nat} (hd : 51 ≤ d) (hX : xAmb G X m_Model_costs d 0 0)  (C : HC) (x1 : Int32) (x2 : Int32) : ∀ (f : Nat) (x3 : Int32) (x4 : Int32) (I : HI) (r : Int32 × HI), (kW G X m_Model_costs C r.2 0 0 58 [.null, .null, .null, .int r.1, .null] []) → L_Model_costs_5 x1 x2 f x3 x4 I = some r → kW G X m_Model_costs C I 0 0 5 [.ref 88, .int x1, .int x2, .int x3, .int x4] [] := by
  intro f
  induction f with
  | zero => intro x3 x4 I r hk h; rw [L_Model_costs_5] at h; cases h
  | succ f ih =>
    intro x3 x4 I r hk
    rw [L_Model_costs_5]
    refine kx_go 2 (pc' := 8) (lv' := [.ref 88, .int x1, .int x2, .int x3, .int x4]) (st' := [.ref 88, .int x4]) hX ok_Model_costs rfl ?_
    refine kx_getp hX ok_Model_costs rfl (q := 89) (nx := 11) rfl ?_
    refine kx_go 1 (pc' := 12) (lv' := [.ref 88, .int x1, .int x2, .int x3, .int x4]) (st' := [.int (1 : Int32), .ref 89, .int x4]) hX ok_Model_costs rfl ?_
    refine kx_ialdc hX ok_Model_costs (w := 270) (nx := 13) rfl rfl (k := 1) rfl ?_
    refine kx_go 1 (pc' := if (I 89 1) ≤ x4 then 58 else 16) (lv' := [.ref 88, .int x1, .int x2, .int x3, .int x4]) (st' := []) hX ok_Model_costs rfl ?_
    refine kx_ite (fun c1 => ?_) (fun c1 => ?_)
    · refine kx_weak (lv' := [.null, .null, .null, .int x3, .null]) (by simp [xsub]) ?_
      intro h; have h := Option.some.inj h; subst h
      exact hk
    · refine kx_go 3 (pc' := 20) (lv' := [.ref 88, .int x1, .int x2, .int x3, .int x4]) (st' := [.int x4, .ref 88, .int x3]) hX ok_Model_costs rfl ?_
      refine kx_bind (fun p2 hp2 => ?_)
      refine kx_V (r := 88) (as := [.int x4]) (by decide) hX ok_Model_costs (nx := 23) rfl l_Model_194 (by decide) rfl (fun _ => s_Model_upper (G := G) (d := 0) (Nat.le_refl _) C I x4 p2 hp2) (by omega) rfl (rest := [.int x3]) rfl (Nat.le_of_ble_eq_true rfl) ⟨Nat.le_of_ble_eq_true rfl, Nat.le_of_ble_eq_true rfl⟩ ?_
      show _ → kW G X m_Model_costs C I 0 0 23 [.ref 88, .int x1, .int x2, .int x3, .int x4] [.int p2, .int x3]
      refine kx_go 2 (pc' := if p2 = x1 then 27 else 49) (lv' := [.ref 88, .int x1, .int x2, .int x3, .int x4]) (st' := [.int x3]) hX ok_Model_costs rfl ?_
      refine kx_ite (fun c3 => ?_) (fun c3 => ?_)
      · refine kx_go 3 (pc' := 31) (lv' := [.ref 88, .int x1, .int x2, .int x3, .int x4]) (st' := [.int x4, .ref 88, .int x2, .int x3]) hX ok_Model_costs rfl ?_
        refine kx_bind (fun p4 hp4 => ?_)
        refine kx_V (r := 88) (as := [.int x4]) (by decide) hX ok_Model_costs (nx := 34) rfl l_Model_205 (by decide) rfl (fun _ => s_Model_lower (G := G) (d := 0) (Nat.le_refl _) C I x4 p4 hp4) (by omega) rfl (rest := [.int x2, .int x3]) rfl (Nat.le_of_ble_eq_true rfl) ⟨Nat.le_of_ble_eq_true rfl, Nat.le_of_ble_eq_true rfl⟩ ?_
        show _ → kW G X m_Model_costs C I 0 0 34 [.ref 88, .int x1, .int x2, .int x3, .int x4] [.int p4, .int x2, .int x3]
        refine kx_go 4 (pc' := if ((x2 >>> (p4 &&& (31 : Int32))) &&& (1 : Int32)) = (0 : Int32) then 40 else 49) (lv' := [.ref 88, .int x1, .int x2, .int x3, .int x4]) (st' := [.int x3]) hX ok_Model_costs rfl ?_
        refine kx_ite (fun c5 => ?_) (fun c5 => ?_)
        · refine kx_go 2 (pc' := 43) (lv' := [.ref 88, .int x1, .int x2, .int x3, .int x4]) (st' := [.int x4, .ref 88, .int x3]) hX ok_Model_costs rfl ?_
          refine kx_bind (fun p6 hp6 => ?_)
          refine kx_V (r := 88) (as := [.int x4]) (by decide) hX ok_Model_costs (nx := 46) rfl l_Model_202 (by decide) rfl (fun _ => s_Model_weightOf (G := G) (d := 50) (Nat.le_refl _) C I x4 p6 hp6) (by omega) rfl (rest := [.int x3]) rfl (Nat.le_of_ble_eq_true rfl) ⟨Nat.le_of_ble_eq_true rfl, Nat.le_of_ble_eq_true rfl⟩ ?_
          show _ → kW G X m_Model_costs C p6.2 0 0 46 [.ref 88, .int x1, .int x2, .int x3, .int x4] [.int p6.1, .int x3]
          refine kx_go 5 (pc' := 5) (lv' := [.ref 88, .int x1, .int x2, .int (x3 + p6.1), .int (x4 + (1 : Int32))]) (st' := []) hX ok_Model_costs rfl ?_
          exact fun h => ih (x3 + p6.1) (x4 + (1 : Int32)) p6.2 r hk h
        · refine kx_go 5 (pc' := 5) (lv' := [.ref 88, .int x1, .int x2, .int (x3 + (0 : Int32)), .int (x4 + (1 : Int32))]) (st' := []) hX ok_Model_costs rfl ?_
          exact fun h => ih (x3 + (0 : Int32)) (x4 + (1 : Int32)) I r hk h
      · refine kx_go 5 (pc' := 5) (lv' := [.ref 88, .int x1, .int x2, .int (x3 + (0 : Int32)), .int (x4 + (1 : Int32))]) (st' := []) hX ok_Model_costs rfl ?_
        exact fun h => ih (x3 + (0 : Int32)) (x4 + (1 : Int32)) I r hk h
def M_Model_costs (I : HI) (x1 : Int32) (x2 : Int32) : Option (Int32 × HI) := Option.bind (L_Model_costs_5 x1 x2 1000 (0 : Int32) (0 : Int32) I) fun p1 => some (p1.1, p1.2)
theorem s_Model_costs {G : xG} {d : Nat} (hd : 51 ≤ d) (C : HC) (I : HI) (x1 : Int32) (x2 : Int32)  (r : Int32 × HI) : M_Model_costs I x1 x2 = some r → kM G d m_Model_costs [.ref 88, .int x1, .int x2] C I 0 0 (some (.int r.1)) C r.2 := by
  unfold M_Model_costs
  refine kM.of (by decide +kernel) (Nat.le_of_ble_eq_true rfl) (lv := [.ref 88, .int x1, .int x2, .null, .null]) rfl (fun X hX hE => ?_)
  refine kx_go 4 (pc' := 5) (lv' := [.ref 88, .int x1, .int x2, .int (0 : Int32), .int (0 : Int32)]) (st' := []) hX ok_Model_costs rfl ?_
  refine kx_bind (fun p1 hp1 => ?_)
  refine kx_via (fun hk => s_L_Model_costs_5 (G := G) (X := X) (by omega) hX C x1 x2 1000 (0 : Int32) (0 : Int32) I p1 hk hp1) ?_
  refine kx_go 1 (pc' := 59) (lv' := [.null, .null, .null, .int p1.1, .null]) (st' := [.int p1.1]) hX ok_Model_costs rfl ?_
  intro h; have h := Option.some.inj h; subst h
  exact kx_iret hX hE ok_Model_costs (nx := 60) rfl rfl ⟨Nat.le_of_ble_eq_true rfl, Nat.le_of_ble_eq_true rfl⟩
def L_Model_findBest_30 (x2 : Int32) : Nat → Int32 → HI → Option (HI)
  | 0, _, _ => none
  | f + 1, x3, I => if (I 89 0) ≤ x3 then (some I) else (if ((x2 >>> (x3 &&& (31 : Int32))) &&& (1 : Int32)) = (0 : Int32) then (Option.bind (M_Model_costs I x3 x2) fun p3 => grd (bnd (x2 ||| ((1 : Int32) <<< (x3 &&& (31 : Int32)))) 256) (lt (p3.1 + (p3.2 96 (x2 ||| ((1 : Int32) <<< (x3 &&& (31 : Int32)))).toNatClampNeg)) fun y5 => grd (bnd x2 256) (if (p3.2 96 x2.toNatClampNeg) ≤ y5 then (lt (xu p3.2 96 x2.toNatClampNeg (p3.2 96 x2.toNatClampNeg)) fun J8 => L_Model_findBest_30 x2 f (x3 + (1 : Int32)) J8) else (lt (xu p3.2 96 x2.toNatClampNeg y5) fun J9 => L_Model_findBest_30 x2 f (x3 + (1 : Int32)) J9)))) else (L_Model_findBest_30 x2 f (x3 + (1 : Int32)) I))
theorem s_L_Model_findBest_30 {G : xG} {X : xC} {d : Nat} (hd : 52 ≤ d) (hX : xAmb G X m_Model_findBest d 0 0)  (C : HC) (x2 : Int32) : ∀ (f : Nat) (x3 : Int32) (I : HI) (r : HI), (kW G X m_Model_findBest C r 0 0 101 [.ref 88, .null, .int x2, .null, .null] []) → L_Model_findBest_30 x2 f x3 I = some r → kW G X m_Model_findBest C I 0 0 30 [.ref 88, .null, .int x2, .int x3, .null] [] := by
  intro f
  induction f with
  | zero => intro x3 I r hk h; rw [L_Model_findBest_30] at h; cases h
  | succ f ih =>
    intro x3 I r hk
    rw [L_Model_findBest_30]
    refine kx_go 2 (pc' := 32) (lv' := [.ref 88, .null, .int x2, .int x3, .null]) (st' := [.ref 88, .int x3]) hX ok_Model_findBest rfl ?_
    refine kx_getp hX ok_Model_findBest rfl (q := 89) (nx := 35) rfl ?_
    refine kx_go 1 (pc' := 36) (lv' := [.ref 88, .null, .int x2, .int x3, .null]) (st' := [.int (0 : Int32), .ref 89, .int x3]) hX ok_Model_findBest rfl ?_
    refine kx_ialdc hX ok_Model_findBest (w := 270) (nx := 37) rfl rfl (k := 0) rfl ?_
    refine kx_go 1 (pc' := if (I 89 0) ≤ x3 then 101 else 40) (lv' := [.ref 88, .null, .int x2, .int x3, .null]) (st' := []) hX ok_Model_findBest rfl ?_
    refine kx_ite (fun c1 => ?_) (fun c1 => ?_)
    · refine kx_weak (lv' := [.ref 88, .null, .int x2, .null, .null]) (by simp [xsub]) ?_
      intro h; have h := Option.some.inj h; subst h
      exact hk
    · refine kx_go 6 (pc' := if ((x2 >>> (x3 &&& (31 : Int32))) &&& (1 : Int32)) = (0 : Int32) then 48 else 95) (lv' := [.ref 88, .null, .int x2, .int x3, .null]) (st' := []) hX ok_Model_findBest rfl ?_
      refine kx_ite (fun c2 => ?_) (fun c2 => ?_)
      · refine kx_go 3 (pc' := 51) (lv' := [.ref 88, .null, .int x2, .int x3, .null]) (st' := [.int x2, .int x3, .ref 88]) hX ok_Model_findBest rfl ?_
        refine kx_bind (fun p3 hp3 => ?_)
        refine kx_V (r := 88) (as := [.int x3, .int x2]) (by decide) hX ok_Model_findBest (nx := 54) rfl l_Model_222 (by decide) rfl (fun _ => s_Model_costs (G := G) (d := 51) (Nat.le_refl _) C I x3 x2 p3 hp3) (by omega) rfl (rest := []) rfl (Nat.le_of_ble_eq_true rfl) ⟨Nat.le_of_ble_eq_true rfl, Nat.le_of_ble_eq_true rfl⟩ ?_
        show _ → kW G X m_Model_findBest C p3.2 0 0 54 [.ref 88, .null, .int x2, .int x3, .null] [.int p3.1]
        refine kx_go 1 (pc' := 55) (lv' := [.ref 88, .null, .int x2, .int x3, .null]) (st' := [.ref 88, .int p3.1]) hX ok_Model_findBest rfl ?_
        refine kx_getp hX ok_Model_findBest rfl (q := 96) (nx := 58) rfl ?_
        refine kx_go 5 (pc' := 63) (lv' := [.ref 88, .null, .int x2, .int x3, .null]) (st' := [.int (x2 ||| ((1 : Int32) <<< (x3 &&& (31 : Int32)))), .ref 96, .int p3.1]) hX ok_Model_findBest rfl ?_
        refine kx_iald hX ok_Model_findBest (w := 256) (nx := 64) rfl (fun b4 => ?_)
        refine kx_go 2 (pc' := 67) (lv' := [.ref 88, .null, .int x2, .int x3, .int (p3.1 + (p3.2 96 (x2 ||| ((1 : Int32) <<< (x3 &&& (31 : Int32)))).toNatClampNeg))]) (st' := []) hX ok_Model_findBest rfl ?_
        refine kx_lt (Q := fun y5 => kW G X m_Model_findBest C p3.2 0 0 67 [.ref 88, .null, .int x2, .int x3, .int y5] []) (fun y5 ey5 => ?_)
        refine kx_go 1 (pc' := 68) (lv' := [.ref 88, .null, .int x2, .int x3, .int y5]) (st' := [.ref 88]) hX ok_Model_findBest rfl ?_
        refine kx_getp hX ok_Model_findBest rfl (q := 96) (nx := 71) rfl ?_
        refine kx_go 3 (pc' := 75) (lv' := [.ref 88, .null, .int x2, .int x3, .int y5]) (st' := [.ref 88, .int y5, .int x2, .ref 96]) hX ok_Model_findBest rfl ?_
        refine kx_getp hX ok_Model_findBest rfl (q := 96) (nx := 78) rfl ?_
        refine kx_go 1 (pc' := 79) (lv' := [.ref 88, .null, .int x2, .int x3, .int y5]) (st' := [.int x2, .ref 96, .int y5, .int x2, .ref 96]) hX ok_Model_findBest rfl ?_
        refine kx_iald hX ok_Model_findBest (w := 256) (nx := 80) rfl (fun b6 => ?_)
        refine kx_go 1 (pc' := if (p3.2 96 x2.toNatClampNeg) ≤ y5 then 88 else 83) (lv' := [.ref 88, .null, .int x2, .int x3, .int y5]) (st' := [.int x2, .ref 96]) hX ok_Model_findBest rfl ?_
        refine kx_ite (fun c7 => ?_) (fun c7 => ?_)
        · refine kx_go 1 (pc' := 89) (lv' := [.ref 88, .null, .int x2, .int x3, .int y5]) (st' := [.ref 88, .int x2, .ref 96]) hX ok_Model_findBest rfl ?_
          refine kx_getp hX ok_Model_findBest rfl (q := 96) (nx := 92) rfl ?_
          refine kx_go 1 (pc' := 93) (lv' := [.ref 88, .null, .int x2, .int x3, .int y5]) (st' := [.int x2, .ref 96, .int x2, .ref 96]) hX ok_Model_findBest rfl ?_
          refine kx_ialdc hX ok_Model_findBest (w := 256) (nx := 94) rfl b6 (k := x2.toNatClampNeg) rfl ?_
          refine kx_iastc hX ok_Model_findBest (w := 256) (nx := 95) rfl b6 (k := x2.toNatClampNeg) rfl ?_
          refine kx_lt (Q := fun J8 => kW G X m_Model_findBest C J8 0 0 95 [.ref 88, .null, .int x2, .int x3, .int y5] []) (fun J8 eJ8 => ?_)
          refine kx_go 2 (pc' := 30) (lv' := [.ref 88, .null, .int x2, .int (x3 + (1 : Int32)), .int y5]) (st' := []) hX ok_Model_findBest rfl ?_
          refine kx_weak (lv' := [.ref 88, .null, .int x2, .int (x3 + (1 : Int32)), .null]) (by simp [xsub]) ?_
          exact fun h => ih (x3 + (1 : Int32)) J8 r hk h
        · refine kx_go 2 (pc' := 94) (lv' := [.ref 88, .null, .int x2, .int x3, .int y5]) (st' := [.int y5, .int x2, .ref 96]) hX ok_Model_findBest rfl ?_
          refine kx_iastc hX ok_Model_findBest (w := 256) (nx := 95) rfl b6 (k := x2.toNatClampNeg) rfl ?_
          refine kx_lt (Q := fun J9 => kW G X m_Model_findBest C J9 0 0 95 [.ref 88, .null, .int x2, .int x3, .int y5] []) (fun J9 eJ9 => ?_)
          refine kx_go 2 (pc' := 30) (lv' := [.ref 88, .null, .int x2, .int (x3 + (1 : Int32)), .int y5]) (st' := []) hX ok_Model_findBest rfl ?_
          refine kx_weak (lv' := [.ref 88, .null, .int x2, .int (x3 + (1 : Int32)), .null]) (by simp [xsub]) ?_
          exact fun h => ih (x3 + (1 : Int32)) J9 r hk h
      · refine kx_go 2 (pc' := 30) (lv' := [.ref 88, .null, .int x2, .int (x3 + (1 : Int32)), .null]) (st' := []) hX ok_Model_findBest rfl ?_
        exact fun h => ih (x3 + (1 : Int32)) I r hk h
def L_Model_findBest_16  : Nat → Int32 → HI → Option (HI)
  | 0, _, _ => none
  | f + 1, x2, I => if x2 < (0 : Int32) then (some I) else (grd (bnd x2 256) (lt (xu I 96 x2.toNatClampNeg (1000000 : Int32)) fun J3 => Option.bind (L_Model_findBest_30 x2 1000 (0 : Int32) J3) fun p4 => L_Model_findBest_16 f (x2 + (-1 : Int32)) p4))
theorem s_L_Model_findBest_16 {G : xG} {X : xC} {d : Nat} (hd : 52 ≤ d) (hX : xAmb G X m_Model_findBest d 0 0)  (C : HC) : ∀ (f : Nat) (x2 : Int32) (I : HI) (r : HI), (kW G X m_Model_findBest C r 0 0 107 [.ref 88, .null, .null, .null, .null] []) → L_Model_findBest_16 f x2 I = some r → kW G X m_Model_findBest C I 0 0 16 [.ref 88, .null, .int x2, .null, .null] [] := by
  intro f
  induction f with
  | zero => intro x2 I r hk h; rw [L_Model_findBest_16] at h; cases h
  | succ f ih =>
    intro x2 I r hk
    rw [L_Model_findBest_16]
    refine kx_go 2 (pc' := if x2 < (0 : Int32) then 107 else 20) (lv' := [.ref 88, .null, .int x2, .null, .null]) (st' := []) hX ok_Model_findBest rfl ?_
    refine kx_ite (fun c1 => ?_) (fun c1 => ?_)
    · refine kx_weak (lv' := [.ref 88, .null, .null, .null, .null]) (by simp [xsub]) ?_
      intro h; have h := Option.some.inj h; subst h
      exact hk
    · refine kx_go 1 (pc' := 21) (lv' := [.ref 88, .null, .int x2, .null, .null]) (st' := [.ref 88]) hX ok_Model_findBest rfl ?_
      refine kx_getp hX ok_Model_findBest rfl (q := 96) (nx := 24) rfl ?_
      refine kx_go 2 (pc' := 27) (lv' := [.ref 88, .null, .int x2, .null, .null]) (st' := [.int (1000000 : Int32), .int x2, .ref 96]) hX ok_Model_findBest rfl ?_
      refine kx_iast hX ok_Model_findBest (w := 256) (nx := 28) rfl (fun b2 => ?_)
      refine kx_lt (Q := fun J3 => kW G X m_Model_findBest C J3 0 0 28 [.ref 88, .null, .int x2, .null, .null] []) (fun J3 eJ3 => ?_)
      refine kx_go 2 (pc' := 30) (lv' := [.ref 88, .null, .int x2, .int (0 : Int32), .null]) (st' := []) hX ok_Model_findBest rfl ?_
      refine kx_bind (fun p4 hp4 => ?_)
      refine kx_via (fun hk => s_L_Model_findBest_30 (G := G) (X := X) (by omega) hX C x2 1000 (0 : Int32) J3 p4 hk hp4) ?_
      refine kx_go 2 (pc' := 16) (lv' := [.ref 88, .null, .int (x2 + (-1 : Int32)), .null, .null]) (st' := []) hX ok_Model_findBest rfl ?_
      exact fun h => ih (x2 + (-1 : Int32)) p4 r hk h
def L_Model_findBest_124 (x2 : Int32) (x3 : Int32) : Nat → Int32 → HI → Option (Int32 × HI)
  | 0, _, _ => none
  | f + 1, x4, I => if ((x2 >>> (x4 &&& (31 : Int32))) &&& (1 : Int32)) = (1 : Int32) then (L_Model_findBest_124 x2 x3 f (x4 + (1 : Int32)) I) else (Option.bind (M_Model_costs I x4 x2) fun p2 => grd (bnd (x2 ||| ((1 : Int32) <<< (x4 &&& (31 : Int32)))) 256) (grd (bnd x2 256) (if (p2.1 + (p2.2 96 (x2 ||| ((1 : Int32) <<< (x4 &&& (31 : Int32)))).toNatClampNeg)) = (p2.2 96 x2.toNatClampNeg) then (some (x4, p2.2)) else (L_Model_findBest_124 x2 x3 f (x4 + (1 : Int32)) p2.2))))
theorem s_L_Model_findBest_124 {G : xG} {X : xC} {d : Nat} (hd : 52 ≤ d) (hX : xAmb G X m_Model_findBest d 0 0)  (C : HC) (x2 : Int32) (x3 : Int32) : ∀ (f : Nat) (x4 : Int32) (I : HI) (r : Int32 × HI), (kW G X m_Model_findBest C r.2 0 0 168 [.ref 88, .null, .int x2, .int x3, .int r.1] []) → L_Model_findBest_124 x2 x3 f x4 I = some r → kW G X m_Model_findBest C I 0 0 124 [.ref 88, .null, .int x2, .int x3, .int x4] [] := by
  intro f
  induction f with
  | zero => intro x4 I r hk h; rw [L_Model_findBest_124] at h; cases h
  | succ f ih =>
    intro x4 I r hk
    rw [L_Model_findBest_124]
    refine kx_go 7 (pc' := if ((x2 >>> (x4 &&& (31 : Int32))) &&& (1 : Int32)) = (1 : Int32) then 162 else 134) (lv' := [.ref 88, .null, .int x2, .int x3, .int x4]) (st' := []) hX ok_Model_findBest rfl ?_
    refine kx_ite (fun c1 => ?_) (fun c1 => ?_)
    · refine kx_go 2 (pc' := 124) (lv' := [.ref 88, .null, .int x2, .int x3, .int (x4 + (1 : Int32))]) (st' := []) hX ok_Model_findBest rfl ?_
      exact fun h => ih (x4 + (1 : Int32)) I r hk h
    · refine kx_go 3 (pc' := 138) (lv' := [.ref 88, .null, .int x2, .int x3, .int x4]) (st' := [.int x2, .int x4, .ref 88]) hX ok_Model_findBest rfl ?_
      refine kx_bind (fun p2 hp2 => ?_)
      refine kx_V (r := 88) (as := [.int x4, .int x2]) (by decide) hX ok_Model_findBest (nx := 141) rfl l_Model_222 (by decide) rfl (fun _ => s_Model_costs (G := G) (d := 51) (Nat.le_refl _) C I x4 x2 p2 hp2) (by omega) rfl (rest := []) rfl (Nat.le_of_ble_eq_true rfl) ⟨Nat.le_of_ble_eq_true rfl, Nat.le_of_ble_eq_true rfl⟩ ?_
      show _ → kW G X m_Model_findBest C p2.2 0 0 141 [.ref 88, .null, .int x2, .int x3, .int x4] [.int p2.1]
      refine kx_go 1 (pc' := 142) (lv' := [.ref 88, .null, .int x2, .int x3, .int x4]) (st' := [.ref 88, .int p2.1]) hX ok_Model_findBest rfl ?_
      refine kx_getp hX ok_Model_findBest rfl (q := 96) (nx := 145) rfl ?_
      refine kx_go 5 (pc' := 151) (lv' := [.ref 88, .null, .int x2, .int x3, .int x4]) (st' := [.int (x2 ||| ((1 : Int32) <<< (x4 &&& (31 : Int32)))), .ref 96, .int p2.1]) hX ok_Model_findBest rfl ?_
      refine kx_iald hX ok_Model_findBest (w := 256) (nx := 152) rfl (fun b3 => ?_)
      refine kx_go 2 (pc' := 154) (lv' := [.ref 88, .null, .int x2, .int x3, .int x4]) (st' := [.ref 88, .int (p2.1 + (p2.2 96 (x2 ||| ((1 : Int32) <<< (x4 &&& (31 : Int32)))).toNatClampNeg))]) hX ok_Model_findBest rfl ?_
      refine kx_getp hX ok_Model_findBest rfl (q := 96) (nx := 157) rfl ?_
      refine kx_go 1 (pc' := 158) (lv' := [.ref 88, .null, .int x2, .int x3, .int x4]) (st' := [.int x2, .ref 96, .int (p2.1 + (p2.2 96 (x2 ||| ((1 : Int32) <<< (x4 &&& (31 : Int32)))).toNatClampNeg))]) hX ok_Model_findBest rfl ?_
      refine kx_iald hX ok_Model_findBest (w := 256) (nx := 159) rfl (fun b4 => ?_)
      refine kx_go 1 (pc' := if (p2.1 + (p2.2 96 (x2 ||| ((1 : Int32) <<< (x4 &&& (31 : Int32)))).toNatClampNeg)) = (p2.2 96 x2.toNatClampNeg) then 168 else 162) (lv' := [.ref 88, .null, .int x2, .int x3, .int x4]) (st' := []) hX ok_Model_findBest rfl ?_
      refine kx_ite (fun c5 => ?_) (fun c5 => ?_)
      · intro h; have h := Option.some.inj h; subst h
        exact hk
      · refine kx_go 2 (pc' := 124) (lv' := [.ref 88, .null, .int x2, .int x3, .int (x4 + (1 : Int32))]) (st' := []) hX ok_Model_findBest rfl ?_
        exact fun h => ih (x4 + (1 : Int32)) p2.2 r hk h
def L_Model_findBest_111  : Nat → Int32 → Int32 → HI → Option (HI)
  | 0, _, _, _ => none
  | f + 1, x2, x3, I => if (I 89 0) ≤ x3 then (some I) else (Option.bind (L_Model_findBest_124 x2 x3 1000 (0 : Int32) I) fun p2 => grd (bnd x3 8) (lt (xu p2.2 97 x3.toNatClampNeg p2.1) fun J4 => L_Model_findBest_111 f (x2 ||| ((1 : Int32) <<< (p2.1 &&& (31 : Int32)))) (x3 + (1 : Int32)) J4))
theorem s_L_Model_findBest_111 {G : xG} {X : xC} {d : Nat} (hd : 52 ≤ d) (hX : xAmb G X m_Model_findBest d 0 0)  (C : HC) : ∀ (f : Nat) (x2 : Int32) (x3 : Int32) (I : HI) (r : HI), (kW G X m_Model_findBest C r 0 0 189 [.ref 88, .null, .null, .null, .null] []) → L_Model_findBest_111 f x2 x3 I = some r → kW G X m_Model_findBest C I 0 0 111 [.ref 88, .null, .int x2, .int x3, .null] [] := by
  intro f
  induction f with
  | zero => intro x2 x3 I r hk h; rw [L_Model_findBest_111] at h; cases h
  | succ f ih =>
    intro x2 x3 I r hk
    rw [L_Model_findBest_111]
    refine kx_go 2 (pc' := 113) (lv' := [.ref 88, .null, .int x2, .int x3, .null]) (st' := [.ref 88, .int x3]) hX ok_Model_findBest rfl ?_
    refine kx_getp hX ok_Model_findBest rfl (q := 89) (nx := 116) rfl ?_
    refine kx_go 1 (pc' := 117) (lv' := [.ref 88, .null, .int x2, .int x3, .null]) (st' := [.int (0 : Int32), .ref 89, .int x3]) hX ok_Model_findBest rfl ?_
    refine kx_ialdc hX ok_Model_findBest (w := 270) (nx := 118) rfl rfl (k := 0) rfl ?_
    refine kx_go 1 (pc' := if (I 89 0) ≤ x3 then 189 else 121) (lv' := [.ref 88, .null, .int x2, .int x3, .null]) (st' := []) hX ok_Model_findBest rfl ?_
    refine kx_ite (fun c1 => ?_) (fun c1 => ?_)
    · refine kx_weak (lv' := [.ref 88, .null, .null, .null, .null]) (by simp [xsub]) ?_
      intro h; have h := Option.some.inj h; subst h
      exact hk
    · refine kx_go 2 (pc' := 124) (lv' := [.ref 88, .null, .int x2, .int x3, .int (0 : Int32)]) (st' := []) hX ok_Model_findBest rfl ?_
      refine kx_bind (fun p2 hp2 => ?_)
      refine kx_via (fun hk => s_L_Model_findBest_124 (G := G) (X := X) (by omega) hX C x2 x3 1000 (0 : Int32) I p2 hk hp2) ?_
      refine kx_go 1 (pc' := 169) (lv' := [.ref 88, .null, .int x2, .int x3, .int p2.1]) (st' := [.ref 88]) hX ok_Model_findBest rfl ?_
      refine kx_getp hX ok_Model_findBest rfl (q := 97) (nx := 172) rfl ?_
      refine kx_go 2 (pc' := 175) (lv' := [.ref 88, .null, .int x2, .int x3, .int p2.1]) (st' := [.int p2.1, .int x3, .ref 97]) hX ok_Model_findBest rfl ?_
      refine kx_iast hX ok_Model_findBest (w := 8) (nx := 176) rfl (fun b3 => ?_)
      refine kx_lt (Q := fun J4 => kW G X m_Model_findBest C J4 0 0 176 [.ref 88, .null, .int x2, .int x3, .int p2.1] []) (fun J4 eJ4 => ?_)
      refine kx_go 8 (pc' := 111) (lv' := [.ref 88, .null, .int (x2 ||| ((1 : Int32) <<< (p2.1 &&& (31 : Int32)))), .int (x3 + (1 : Int32)), .int p2.1]) (st' := []) hX ok_Model_findBest rfl ?_
      refine kx_weak (lv' := [.ref 88, .null, .int (x2 ||| ((1 : Int32) <<< (p2.1 &&& (31 : Int32)))), .int (x3 + (1 : Int32)), .null]) (by simp [xsub]) ?_
      exact fun h => ih (x2 ||| ((1 : Int32) <<< (p2.1 &&& (31 : Int32)))) (x3 + (1 : Int32)) J4 r hk h
def M_Model_findBest (I : HI) : Option (Int32 × HI) := grd (bnd (M_Model_allStrokes I) 256) (lt (xu I 96 (M_Model_allStrokes I).toNatClampNeg (0 : Int32)) fun J2 => Option.bind (L_Model_findBest_16 1000 ((M_Model_allStrokes I) - (1 : Int32)) J2) fun p3 => Option.bind (L_Model_findBest_111 1000 (0 : Int32) (0 : Int32) p3) fun p4 => some ((p4 96 0), p4))
theorem s_Model_findBest {G : xG} {d : Nat} (hd : 52 ≤ d) (C : HC) (I : HI)   (r : Int32 × HI) : M_Model_findBest I = some r → kM G d m_Model_findBest [.ref 88] C I 0 0 (some (.int r.1)) C r.2 := by
  unfold M_Model_findBest
  refine kM.of (by decide +kernel) (Nat.le_of_ble_eq_true rfl) (lv := [.ref 88, .null, .null, .null, .null]) rfl (fun X hX hE => ?_)
  refine kx_go 1 (pc' := 1) (lv' := [.ref 88, .null, .null, .null, .null]) (st' := [.ref 88]) hX ok_Model_findBest rfl ?_
  refine kx_V (r := 88) (as := []) (by decide) hX ok_Model_findBest (nx := 4) rfl l_Model_211 (by decide) rfl (fun _ => s_Model_allStrokes (G := G) (d := 0) (Nat.le_refl _) C I  _ rfl) (by omega) rfl (rest := []) rfl (Nat.le_of_ble_eq_true rfl) ⟨Nat.le_of_ble_eq_true rfl, Nat.le_of_ble_eq_true rfl⟩ ?_
  show _ → kW G X m_Model_findBest C I 0 0 4 [.ref 88, .null, .null, .null, .null] [.int (M_Model_allStrokes I)]
  refine kx_go 2 (pc' := 6) (lv' := [.ref 88, .int (M_Model_allStrokes I), .null, .null, .null]) (st' := [.ref 88]) hX ok_Model_findBest rfl ?_
  refine kx_getp hX ok_Model_findBest rfl (q := 96) (nx := 9) rfl ?_
  refine kx_go 2 (pc' := 11) (lv' := [.ref 88, .int (M_Model_allStrokes I), .null, .null, .null]) (st' := [.int (0 : Int32), .int (M_Model_allStrokes I), .ref 96]) hX ok_Model_findBest rfl ?_
  refine kx_iast hX ok_Model_findBest (w := 256) (nx := 12) rfl (fun b1 => ?_)
  refine kx_lt (Q := fun J2 => kW G X m_Model_findBest C J2 0 0 12 [.ref 88, .int (M_Model_allStrokes I), .null, .null, .null] []) (fun J2 eJ2 => ?_)
  refine kx_go 4 (pc' := 16) (lv' := [.ref 88, .int (M_Model_allStrokes I), .int ((M_Model_allStrokes I) - (1 : Int32)), .null, .null]) (st' := []) hX ok_Model_findBest rfl ?_
  refine kx_weak (lv' := [.ref 88, .null, .int ((M_Model_allStrokes I) - (1 : Int32)), .null, .null]) (by simp [xsub]) ?_
  refine kx_bind (fun p3 hp3 => ?_)
  refine kx_via (fun hk => s_L_Model_findBest_16 (G := G) (X := X) (by omega) hX C 1000 ((M_Model_allStrokes I) - (1 : Int32)) J2 p3 hk hp3) ?_
  refine kx_go 4 (pc' := 111) (lv' := [.ref 88, .null, .int (0 : Int32), .int (0 : Int32), .null]) (st' := []) hX ok_Model_findBest rfl ?_
  refine kx_bind (fun p4 hp4 => ?_)
  refine kx_via (fun hk => s_L_Model_findBest_111 (G := G) (X := X) (by omega) hX C 1000 (0 : Int32) (0 : Int32) p3 p4 hk hp4) ?_
  refine kx_go 1 (pc' := 190) (lv' := [.ref 88, .null, .null, .null, .null]) (st' := [.ref 88]) hX ok_Model_findBest rfl ?_
  refine kx_getp hX ok_Model_findBest rfl (q := 96) (nx := 193) rfl ?_
  refine kx_go 1 (pc' := 194) (lv' := [.ref 88, .null, .null, .null, .null]) (st' := [.int (0 : Int32), .ref 96]) hX ok_Model_findBest rfl ?_
  refine kx_ialdc hX ok_Model_findBest (w := 256) (nx := 195) rfl rfl (k := 0) rfl ?_
  intro h; have h := Option.some.inj h; subst h
  exact kx_iret hX hE ok_Model_findBest (nx := 196) rfl rfl ⟨Nat.le_of_ble_eq_true rfl, Nat.le_of_ble_eq_true rfl⟩
def M_Model_best (I : HI) (x1 : Int32) : Option (Int32 × HI) := if (M_Model_in (x1.toInt64) (Int64.ofNat 0) (((I 89 0) - (1 : Int32)).toInt64)) = (0 : Int32) then (Option.bind (M_Model_finds I (1 : Int32)) fun p2 => some (p2.1, p2.2)) else (Option.bind (M_Model_findBest I) fun p3 => grd (bnd x1 8) (some ((p3.2 97 x1.toNatClampNeg), p3.2)))
theorem s_Model_best {G : xG} {d : Nat} (hd : 53 ≤ d) (C : HC) (I : HI) (x1 : Int32)  (r : Int32 × HI) : M_Model_best I x1 = some r → kM G d m_Model_best [.ref 88, .int x1] C I 0 0 (some (.int r.1)) C r.2 := by
  unfold M_Model_best
  refine kM.of (by decide +kernel) (Nat.le_of_ble_eq_true rfl) (lv := [.ref 88, .int x1, .null]) rfl (fun X hX hE => ?_)
  refine kx_go 4 (pc' := 4) (lv' := [.ref 88, .int x1, .null]) (st' := [.ref 88, .long (Int64.ofNat 0), .long (x1.toInt64)]) hX ok_Model_best rfl ?_
  refine kx_getp hX ok_Model_best rfl (q := 89) (nx := 7) rfl ?_
  refine kx_go 1 (pc' := 8) (lv' := [.ref 88, .int x1, .null]) (st' := [.int (0 : Int32), .ref 89, .long (Int64.ofNat 0), .long (x1.toInt64)]) hX ok_Model_best rfl ?_
  refine kx_ialdc hX ok_Model_best (w := 270) (nx := 9) rfl rfl (k := 0) rfl ?_
  refine kx_go 3 (pc' := 12) (lv' := [.ref 88, .int x1, .null]) (st' := [.long (((I 89 0) - (1 : Int32)).toInt64), .long (Int64.ofNat 0), .long (x1.toInt64)]) hX ok_Model_best rfl ?_
  refine kx_S (as := [.long (x1.toInt64), .long (Int64.ofNat 0), .long (((I 89 0) - (1 : Int32)).toInt64)]) hX ok_Model_best (nx := 15) rfl l_Model_66 (fun _ => s_Model_in (G := G) (d := 0) (Nat.le_refl _) C I (x1.toInt64) (Int64.ofNat 0) (((I 89 0) - (1 : Int32)).toInt64) _ rfl) (by omega) rfl (rest := []) rfl (Nat.le_of_ble_eq_true rfl) ⟨Nat.le_of_ble_eq_true rfl, Nat.le_of_ble_eq_true rfl⟩ ?_
  show _ → kW G X m_Model_best C I 0 0 15 [.ref 88, .int x1, .null] [.int (M_Model_in (x1.toInt64) (Int64.ofNat 0) (((I 89 0) - (1 : Int32)).toInt64))]
  refine kx_go 1 (pc' := if (M_Model_in (x1.toInt64) (Int64.ofNat 0) (((I 89 0) - (1 : Int32)).toInt64)) = (0 : Int32) then 18 else 24) (lv' := [.ref 88, .int x1, .null]) (st' := []) hX ok_Model_best rfl ?_
  refine kx_ite (fun c1 => ?_) (fun c1 => ?_)
  · refine kx_go 2 (pc' := 20) (lv' := [.ref 88, .int x1, .null]) (st' := [.int (1 : Int32), .ref 88]) hX ok_Model_best rfl ?_
    refine kx_bind (fun p2 hp2 => ?_)
    refine kx_V (r := 88) (as := [.int (1 : Int32)]) (by decide) hX ok_Model_best (nx := 23) rfl l_Model_129 (by decide) rfl (fun _ => s_Model_finds (G := G) (d := 0) (Nat.le_refl _) C I (1 : Int32) p2 hp2) (by omega) rfl (rest := []) rfl (Nat.le_of_ble_eq_true rfl) ⟨Nat.le_of_ble_eq_true rfl, Nat.le_of_ble_eq_true rfl⟩ ?_
    show _ → kW G X m_Model_best C p2.2 0 0 23 [.ref 88, .int x1, .null] [.int p2.1]
    intro h; have h := Option.some.inj h; subst h
    exact kx_iret hX hE ok_Model_best (nx := 24) rfl rfl ⟨Nat.le_of_ble_eq_true rfl, Nat.le_of_ble_eq_true rfl⟩
  · refine kx_go 1 (pc' := 25) (lv' := [.ref 88, .int x1, .null]) (st' := [.ref 88]) hX ok_Model_best rfl ?_
    refine kx_bind (fun p3 hp3 => ?_)
    refine kx_V (r := 88) (as := []) (by decide) hX ok_Model_best (nx := 28) rfl l_Model_225 (by decide) rfl (fun _ => s_Model_findBest (G := G) (d := 52) (Nat.le_refl _) C I  p3 hp3) (by omega) rfl (rest := []) rfl (Nat.le_of_ble_eq_true rfl) ⟨Nat.le_of_ble_eq_true rfl, Nat.le_of_ble_eq_true rfl⟩ ?_
    show _ → kW G X m_Model_best C p3.2 0 0 28 [.ref 88, .int x1, .null] [.int p3.1]
    refine kx_go 2 (pc' := 30) (lv' := [.ref 88, .int x1, .int p3.1]) (st' := [.ref 88]) hX ok_Model_best rfl ?_
    refine kx_getp hX ok_Model_best rfl (q := 97) (nx := 33) rfl ?_
    refine kx_go 1 (pc' := 34) (lv' := [.ref 88, .int x1, .int p3.1]) (st' := [.int x1, .ref 97]) hX ok_Model_best rfl ?_
    refine kx_iald hX ok_Model_best (w := 8) (nx := 35) rfl (fun b4 => ?_)
    intro h; have h := Option.some.inj h; subst h
    exact kx_iret hX hE ok_Model_best (nx := 36) rfl rfl ⟨Nat.le_of_ble_eq_true rfl, Nat.le_of_ble_eq_true rfl⟩
def L_Model_findYears_2  : Nat → Int32 → HI → Option (HI)
  | 0, _, _ => none
  | f + 1, x1, I => if (I 89 0) ≤ x1 then (some I) else (Option.bind (M_Model_earlyOf I x1) fun p2 => grd (bnd x1 8) (lt (xu p2.2 98 x1.toNatClampNeg p2.1) fun J4 => Option.bind (M_Model_lateOf J4 x1) fun p5 => lt (xu p5.2 99 x1.toNatClampNeg p5.1) fun J6 => L_Model_findYears_2 f (x1 + (1 : Int32)) J6))
theorem s_L_Model_findYears_2 {G : xG} {X : xC} {d : Nat} (hd : 52 ≤ d) (hX : xAmb G X m_Model_findYears d 0 0)  (C : HC) : ∀ (f : Nat) (x1 : Int32) (I : HI) (r : HI), (kW G X m_Model_findYears C r 0 0 40 [.null, .null] []) → L_Model_findYears_2 f x1 I = some r → kW G X m_Model_findYears C I 0 0 2 [.ref 88, .int x1] [] := by
  intro f
  induction f with
  | zero => intro x1 I r hk h; rw [L_Model_findYears_2] at h; cases h
  | succ f ih =>
    intro x1 I r hk
    rw [L_Model_findYears_2]
    refine kx_go 2 (pc' := 4) (lv' := [.ref 88, .int x1]) (st' := [.ref 88, .int x1]) hX ok_Model_findYears rfl ?_
    refine kx_getp hX ok_Model_findYears rfl (q := 89) (nx := 7) rfl ?_
    refine kx_go 1 (pc' := 8) (lv' := [.ref 88, .int x1]) (st' := [.int (0 : Int32), .ref 89, .int x1]) hX ok_Model_findYears rfl ?_
    refine kx_ialdc hX ok_Model_findYears (w := 270) (nx := 9) rfl rfl (k := 0) rfl ?_
    refine kx_go 1 (pc' := if (I 89 0) ≤ x1 then 40 else 12) (lv' := [.ref 88, .int x1]) (st' := []) hX ok_Model_findYears rfl ?_
    refine kx_ite (fun c1 => ?_) (fun c1 => ?_)
    · refine kx_weak (lv' := [.null, .null]) (by simp [xsub]) ?_
      intro h; have h := Option.some.inj h; subst h
      exact hk
    · refine kx_go 1 (pc' := 13) (lv' := [.ref 88, .int x1]) (st' := [.ref 88]) hX ok_Model_findYears rfl ?_
      refine kx_getp hX ok_Model_findYears rfl (q := 98) (nx := 16) rfl ?_
      refine kx_go 3 (pc' := 19) (lv' := [.ref 88, .int x1]) (st' := [.int x1, .ref 88, .int x1, .ref 98]) hX ok_Model_findYears rfl ?_
      refine kx_bind (fun p2 hp2 => ?_)
      refine kx_V (r := 88) (as := [.int x1]) (by decide) hX ok_Model_findYears (nx := 22) rfl l_Model_170 (by decide) rfl (fun _ => s_Model_earlyOf (G := G) (d := 51) (Nat.le_refl _) C I x1 p2 hp2) (by omega) rfl (rest := [.int x1, .ref 98]) rfl (Nat.le_of_ble_eq_true rfl) ⟨Nat.le_of_ble_eq_true rfl, Nat.le_of_ble_eq_true rfl⟩ ?_
      show _ → kW G X m_Model_findYears C p2.2 0 0 22 [.ref 88, .int x1] [.int p2.1, .int x1, .ref 98]
      refine kx_iast hX ok_Model_findYears (w := 8) (nx := 23) rfl (fun b3 => ?_)
      refine kx_lt (Q := fun J4 => kW G X m_Model_findYears C J4 0 0 23 [.ref 88, .int x1] []) (fun J4 eJ4 => ?_)
      refine kx_go 1 (pc' := 24) (lv' := [.ref 88, .int x1]) (st' := [.ref 88]) hX ok_Model_findYears rfl ?_
      refine kx_getp hX ok_Model_findYears rfl (q := 99) (nx := 27) rfl ?_
      refine kx_go 3 (pc' := 30) (lv' := [.ref 88, .int x1]) (st' := [.int x1, .ref 88, .int x1, .ref 99]) hX ok_Model_findYears rfl ?_
      refine kx_bind (fun p5 hp5 => ?_)
      refine kx_V (r := 88) (as := [.int x1]) (by decide) hX ok_Model_findYears (nx := 33) rfl l_Model_173 (by decide) rfl (fun _ => s_Model_lateOf (G := G) (d := 51) (Nat.le_refl _) C J4 x1 p5 hp5) (by omega) rfl (rest := [.int x1, .ref 99]) rfl (Nat.le_of_ble_eq_true rfl) ⟨Nat.le_of_ble_eq_true rfl, Nat.le_of_ble_eq_true rfl⟩ ?_
      show _ → kW G X m_Model_findYears C p5.2 0 0 33 [.ref 88, .int x1] [.int p5.1, .int x1, .ref 99]
      refine kx_iastc hX ok_Model_findYears (w := 8) (nx := 34) rfl b3 (k := x1.toNatClampNeg) rfl ?_
      refine kx_lt (Q := fun J6 => kW G X m_Model_findYears C J6 0 0 34 [.ref 88, .int x1] []) (fun J6 eJ6 => ?_)
      refine kx_go 2 (pc' := 2) (lv' := [.ref 88, .int (x1 + (1 : Int32))]) (st' := []) hX ok_Model_findYears rfl ?_
      exact fun h => ih (x1 + (1 : Int32)) J6 r hk h
def M_Model_findYears (I : HI) : Option (HI) := Option.bind (L_Model_findYears_2 1000 (0 : Int32) I) fun p1 => some p1
theorem s_Model_findYears {G : xG} {d : Nat} (hd : 52 ≤ d) (C : HC) (I : HI)   (r : HI) : M_Model_findYears I = some r → kM G d m_Model_findYears [.ref 88] C I 0 0 none C r := by
  unfold M_Model_findYears
  refine kM.of (by decide +kernel) (Nat.le_of_ble_eq_true rfl) (lv := [.ref 88, .null]) rfl (fun X hX hE => ?_)
  refine kx_go 2 (pc' := 2) (lv' := [.ref 88, .int (0 : Int32)]) (st' := []) hX ok_Model_findYears rfl ?_
  refine kx_bind (fun p1 hp1 => ?_)
  refine kx_via (fun hk => s_L_Model_findYears_2 (G := G) (X := X) (by omega) hX C 1000 (0 : Int32) I p1 hk hp1) ?_
  intro h; have h := Option.some.inj h; subst h
  exact kx_vret hX hE ok_Model_findYears (nx := 41) rfl rfl ⟨Nat.le_of_ble_eq_true rfl, Nat.le_of_ble_eq_true rfl⟩
def L_Model_pushes_18 (x2 : Int32) : Nat → Int32 → Int32 → HI → Option (Int32 × HI)
  | 0, _, _, _ => none
  | f + 1, x1, x3, I => if (I 89 1) ≤ x3 then (some (x1, I)) else (Option.bind (M_Model_upper I x3) fun p2 => grd (bnd p2 8) (Option.bind (M_Model_lower I x3) fun p4 => grd (bnd p4 8) (if (I 98 p4.toNatClampNeg) < (I 98 p2.toNatClampNeg) then (Option.bind (M_Model_lower I x3) fun p7 => grd (bnd p7 8) (Option.bind (M_Model_upper I x3) fun p9 => grd (bnd p9 8) (if (I 99 p7.toNatClampNeg) < (I 99 p9.toNatClampNeg) then (L_Model_pushes_18 x2 f x1 (x3 + (1 : Int32)) I) else (Option.bind (M_Model_lower I x3) fun p12 => Option.bind (M_Model_upper I x3) fun p13 => grd (bnd p13 8) (grd (bnd p12 8) (lt (xu I 99 p12.toNatClampNeg ((I 99 p13.toNatClampNeg) - (1 : Int32))) fun J16 => L_Model_pushes_18 x2 f (1 : Int32) (x3 + (1 : Int32)) J16)))))) else (Option.bind (M_Model_upper I x3) fun p17 => Option.bind (M_Model_lower I x3) fun p18 => grd (bnd p18 8) (grd (bnd p17 8) (lt (xu I 98 p17.toNatClampNeg ((I 98 p18.toNatClampNeg) + (1 : Int32))) fun J21 => Option.bind (M_Model_lower J21 x3) fun p22 => grd (bnd p22 8) (Option.bind (M_Model_upper J21 x3) fun p24 => grd (bnd p24 8) (if (J21 99 p22.toNatClampNeg) < (J21 99 p24.toNatClampNeg) then (L_Model_pushes_18 x2 f (1 : Int32) (x3 + (1 : Int32)) J21) else (Option.bind (M_Model_lower J21 x3) fun p27 => Option.bind (M_Model_upper J21 x3) fun p28 => grd (bnd p28 8) (grd (bnd p27 8) (lt (xu J21 99 p27.toNatClampNeg ((J21 99 p28.toNatClampNeg) - (1 : Int32))) fun J31 => L_Model_pushes_18 x2 f (1 : Int32) (x3 + (1 : Int32)) J31)))))))))))
theorem s_L_Model_pushes_18 {G : xG} {X : xC} {d : Nat} (hd : 1 ≤ d) (hX : xAmb G X m_Model_pushes d 0 0)  (C : HC) (x2 : Int32) : ∀ (f : Nat) (x1 : Int32) (x3 : Int32) (I : HI) (r : Int32 × HI), (kW G X m_Model_pushes C r.2 0 0 128 [.ref 88, .int r.1, .int x2, .null] []) → L_Model_pushes_18 x2 f x1 x3 I = some r → kW G X m_Model_pushes C I 0 0 18 [.ref 88, .int x1, .int x2, .int x3] [] := by
  intro f
  induction f with
  | zero => intro x1 x3 I r hk h; rw [L_Model_pushes_18] at h; cases h
  | succ f ih =>
    intro x1 x3 I r hk
    rw [L_Model_pushes_18]
    refine kx_go 2 (pc' := 20) (lv' := [.ref 88, .int x1, .int x2, .int x3]) (st' := [.ref 88, .int x3]) hX ok_Model_pushes rfl ?_
    refine kx_getp hX ok_Model_pushes rfl (q := 89) (nx := 23) rfl ?_
    refine kx_go 1 (pc' := 24) (lv' := [.ref 88, .int x1, .int x2, .int x3]) (st' := [.int (1 : Int32), .ref 89, .int x3]) hX ok_Model_pushes rfl ?_
    refine kx_ialdc hX ok_Model_pushes (w := 270) (nx := 25) rfl rfl (k := 1) rfl ?_
    refine kx_go 1 (pc' := if (I 89 1) ≤ x3 then 128 else 28) (lv' := [.ref 88, .int x1, .int x2, .int x3]) (st' := []) hX ok_Model_pushes rfl ?_
    refine kx_ite (fun c1 => ?_) (fun c1 => ?_)
    · refine kx_weak (lv' := [.ref 88, .int x1, .int x2, .null]) (by simp [xsub]) ?_
      intro h; have h := Option.some.inj h; subst h
      exact hk
    · refine kx_go 1 (pc' := 29) (lv' := [.ref 88, .int x1, .int x2, .int x3]) (st' := [.ref 88]) hX ok_Model_pushes rfl ?_
      refine kx_getp hX ok_Model_pushes rfl (q := 98) (nx := 32) rfl ?_
      refine kx_go 2 (pc' := 34) (lv' := [.ref 88, .int x1, .int x2, .int x3]) (st' := [.int x3, .ref 88, .ref 98]) hX ok_Model_pushes rfl ?_
      refine kx_bind (fun p2 hp2 => ?_)
      refine kx_V (r := 88) (as := [.int x3]) (by decide) hX ok_Model_pushes (nx := 37) rfl l_Model_194 (by decide) rfl (fun _ => s_Model_upper (G := G) (d := 0) (Nat.le_refl _) C I x3 p2 hp2) (by omega) rfl (rest := [.ref 98]) rfl (Nat.le_of_ble_eq_true rfl) ⟨Nat.le_of_ble_eq_true rfl, Nat.le_of_ble_eq_true rfl⟩ ?_
      show _ → kW G X m_Model_pushes C I 0 0 37 [.ref 88, .int x1, .int x2, .int x3] [.int p2, .ref 98]
      refine kx_iald hX ok_Model_pushes (w := 8) (nx := 38) rfl (fun b3 => ?_)
      refine kx_go 1 (pc' := 39) (lv' := [.ref 88, .int x1, .int x2, .int x3]) (st' := [.ref 88, .int (I 98 p2.toNatClampNeg)]) hX ok_Model_pushes rfl ?_
      refine kx_getp hX ok_Model_pushes rfl (q := 98) (nx := 42) rfl ?_
      refine kx_go 2 (pc' := 44) (lv' := [.ref 88, .int x1, .int x2, .int x3]) (st' := [.int x3, .ref 88, .ref 98, .int (I 98 p2.toNatClampNeg)]) hX ok_Model_pushes rfl ?_
      refine kx_bind (fun p4 hp4 => ?_)
      refine kx_V (r := 88) (as := [.int x3]) (by decide) hX ok_Model_pushes (nx := 47) rfl l_Model_205 (by decide) rfl (fun _ => s_Model_lower (G := G) (d := 0) (Nat.le_refl _) C I x3 p4 hp4) (by omega) rfl (rest := [.ref 98, .int (I 98 p2.toNatClampNeg)]) rfl (Nat.le_of_ble_eq_true rfl) ⟨Nat.le_of_ble_eq_true rfl, Nat.le_of_ble_eq_true rfl⟩ ?_
      show _ → kW G X m_Model_pushes C I 0 0 47 [.ref 88, .int x1, .int x2, .int x3] [.int p4, .ref 98, .int (I 98 p2.toNatClampNeg)]
      refine kx_iald hX ok_Model_pushes (w := 8) (nx := 48) rfl (fun b5 => ?_)
      refine kx_go 1 (pc' := if (I 98 p4.toNatClampNeg) < (I 98 p2.toNatClampNeg) then 75 else 51) (lv' := [.ref 88, .int x1, .int x2, .int x3]) (st' := []) hX ok_Model_pushes rfl ?_
      refine kx_ite (fun c6 => ?_) (fun c6 => ?_)
      · refine kx_go 1 (pc' := 76) (lv' := [.ref 88, .int x1, .int x2, .int x3]) (st' := [.ref 88]) hX ok_Model_pushes rfl ?_
        refine kx_getp hX ok_Model_pushes rfl (q := 99) (nx := 79) rfl ?_
        refine kx_go 2 (pc' := 81) (lv' := [.ref 88, .int x1, .int x2, .int x3]) (st' := [.int x3, .ref 88, .ref 99]) hX ok_Model_pushes rfl ?_
        refine kx_bind (fun p7 hp7 => ?_)
        refine kx_V (r := 88) (as := [.int x3]) (by decide) hX ok_Model_pushes (nx := 84) rfl l_Model_205 (by decide) rfl (fun _ => s_Model_lower (G := G) (d := 0) (Nat.le_refl _) C I x3 p7 hp7) (by omega) rfl (rest := [.ref 99]) rfl (Nat.le_of_ble_eq_true rfl) ⟨Nat.le_of_ble_eq_true rfl, Nat.le_of_ble_eq_true rfl⟩ ?_
        show _ → kW G X m_Model_pushes C I 0 0 84 [.ref 88, .int x1, .int x2, .int x3] [.int p7, .ref 99]
        refine kx_iald hX ok_Model_pushes (w := 8) (nx := 85) rfl (fun b8 => ?_)
        refine kx_go 1 (pc' := 86) (lv' := [.ref 88, .int x1, .int x2, .int x3]) (st' := [.ref 88, .int (I 99 p7.toNatClampNeg)]) hX ok_Model_pushes rfl ?_
        refine kx_getp hX ok_Model_pushes rfl (q := 99) (nx := 89) rfl ?_
        refine kx_go 2 (pc' := 91) (lv' := [.ref 88, .int x1, .int x2, .int x3]) (st' := [.int x3, .ref 88, .ref 99, .int (I 99 p7.toNatClampNeg)]) hX ok_Model_pushes rfl ?_
        refine kx_bind (fun p9 hp9 => ?_)
        refine kx_V (r := 88) (as := [.int x3]) (by decide) hX ok_Model_pushes (nx := 94) rfl l_Model_194 (by decide) rfl (fun _ => s_Model_upper (G := G) (d := 0) (Nat.le_refl _) C I x3 p9 hp9) (by omega) rfl (rest := [.ref 99, .int (I 99 p7.toNatClampNeg)]) rfl (Nat.le_of_ble_eq_true rfl) ⟨Nat.le_of_ble_eq_true rfl, Nat.le_of_ble_eq_true rfl⟩ ?_
        show _ → kW G X m_Model_pushes C I 0 0 94 [.ref 88, .int x1, .int x2, .int x3] [.int p9, .ref 99, .int (I 99 p7.toNatClampNeg)]
        refine kx_iald hX ok_Model_pushes (w := 8) (nx := 95) rfl (fun b10 => ?_)
        refine kx_go 1 (pc' := if (I 99 p7.toNatClampNeg) < (I 99 p9.toNatClampNeg) then 122 else 98) (lv' := [.ref 88, .int x1, .int x2, .int x3]) (st' := []) hX ok_Model_pushes rfl ?_
        refine kx_ite (fun c11 => ?_) (fun c11 => ?_)
        · refine kx_go 2 (pc' := 18) (lv' := [.ref 88, .int x1, .int x2, .int (x3 + (1 : Int32))]) (st' := []) hX ok_Model_pushes rfl ?_
          exact fun h => ih x1 (x3 + (1 : Int32)) I r hk h
        · refine kx_go 1 (pc' := 99) (lv' := [.ref 88, .int x1, .int x2, .int x3]) (st' := [.ref 88]) hX ok_Model_pushes rfl ?_
          refine kx_getp hX ok_Model_pushes rfl (q := 99) (nx := 102) rfl ?_
          refine kx_go 2 (pc' := 104) (lv' := [.ref 88, .int x1, .int x2, .int x3]) (st' := [.int x3, .ref 88, .ref 99]) hX ok_Model_pushes rfl ?_
          refine kx_bind (fun p12 hp12 => ?_)
          refine kx_V (r := 88) (as := [.int x3]) (by decide) hX ok_Model_pushes (nx := 107) rfl l_Model_205 (by decide) rfl (fun _ => s_Model_lower (G := G) (d := 0) (Nat.le_refl _) C I x3 p12 hp12) (by omega) rfl (rest := [.ref 99]) rfl (Nat.le_of_ble_eq_true rfl) ⟨Nat.le_of_ble_eq_true rfl, Nat.le_of_ble_eq_true rfl⟩ ?_
          show _ → kW G X m_Model_pushes C I 0 0 107 [.ref 88, .int x1, .int x2, .int x3] [.int p12, .ref 99]
          refine kx_go 1 (pc' := 108) (lv' := [.ref 88, .int x1, .int x2, .int x3]) (st' := [.ref 88, .int p12, .ref 99]) hX ok_Model_pushes rfl ?_
          refine kx_getp hX ok_Model_pushes rfl (q := 99) (nx := 111) rfl ?_
          refine kx_go 2 (pc' := 113) (lv' := [.ref 88, .int x1, .int x2, .int x3]) (st' := [.int x3, .ref 88, .ref 99, .int p12, .ref 99]) hX ok_Model_pushes rfl ?_
          refine kx_bind (fun p13 hp13 => ?_)
          refine kx_V (r := 88) (as := [.int x3]) (by decide) hX ok_Model_pushes (nx := 116) rfl l_Model_194 (by decide) rfl (fun _ => s_Model_upper (G := G) (d := 0) (Nat.le_refl _) C I x3 p13 hp13) (by omega) rfl (rest := [.ref 99, .int p12, .ref 99]) rfl (Nat.le_of_ble_eq_true rfl) ⟨Nat.le_of_ble_eq_true rfl, Nat.le_of_ble_eq_true rfl⟩ ?_
          show _ → kW G X m_Model_pushes C I 0 0 116 [.ref 88, .int x1, .int x2, .int x3] [.int p13, .ref 99, .int p12, .ref 99]
          refine kx_iald hX ok_Model_pushes (w := 8) (nx := 117) rfl (fun b14 => ?_)
          refine kx_go 2 (pc' := 119) (lv' := [.ref 88, .int x1, .int x2, .int x3]) (st' := [.int ((I 99 p13.toNatClampNeg) - (1 : Int32)), .int p12, .ref 99]) hX ok_Model_pushes rfl ?_
          refine kx_iast hX ok_Model_pushes (w := 8) (nx := 120) rfl (fun b15 => ?_)
          refine kx_lt (Q := fun J16 => kW G X m_Model_pushes C J16 0 0 120 [.ref 88, .int x1, .int x2, .int x3] []) (fun J16 eJ16 => ?_)
          refine kx_go 4 (pc' := 18) (lv' := [.ref 88, .int (1 : Int32), .int x2, .int (x3 + (1 : Int32))]) (st' := []) hX ok_Model_pushes rfl ?_
          exact fun h => ih (1 : Int32) (x3 + (1 : Int32)) J16 r hk h
      · refine kx_go 1 (pc' := 52) (lv' := [.ref 88, .int x1, .int x2, .int x3]) (st' := [.ref 88]) hX ok_Model_pushes rfl ?_
        refine kx_getp hX ok_Model_pushes rfl (q := 98) (nx := 55) rfl ?_
        refine kx_go 2 (pc' := 57) (lv' := [.ref 88, .int x1, .int x2, .int x3]) (st' := [.int x3, .ref 88, .ref 98]) hX ok_Model_pushes rfl ?_
        refine kx_bind (fun p17 hp17 => ?_)
        refine kx_V (r := 88) (as := [.int x3]) (by decide) hX ok_Model_pushes (nx := 60) rfl l_Model_194 (by decide) rfl (fun _ => s_Model_upper (G := G) (d := 0) (Nat.le_refl _) C I x3 p17 hp17) (by omega) rfl (rest := [.ref 98]) rfl (Nat.le_of_ble_eq_true rfl) ⟨Nat.le_of_ble_eq_true rfl, Nat.le_of_ble_eq_true rfl⟩ ?_
        show _ → kW G X m_Model_pushes C I 0 0 60 [.ref 88, .int x1, .int x2, .int x3] [.int p17, .ref 98]
        refine kx_go 1 (pc' := 61) (lv' := [.ref 88, .int x1, .int x2, .int x3]) (st' := [.ref 88, .int p17, .ref 98]) hX ok_Model_pushes rfl ?_
        refine kx_getp hX ok_Model_pushes rfl (q := 98) (nx := 64) rfl ?_
        refine kx_go 2 (pc' := 66) (lv' := [.ref 88, .int x1, .int x2, .int x3]) (st' := [.int x3, .ref 88, .ref 98, .int p17, .ref 98]) hX ok_Model_pushes rfl ?_
        refine kx_bind (fun p18 hp18 => ?_)
        refine kx_V (r := 88) (as := [.int x3]) (by decide) hX ok_Model_pushes (nx := 69) rfl l_Model_205 (by decide) rfl (fun _ => s_Model_lower (G := G) (d := 0) (Nat.le_refl _) C I x3 p18 hp18) (by omega) rfl (rest := [.ref 98, .int p17, .ref 98]) rfl (Nat.le_of_ble_eq_true rfl) ⟨Nat.le_of_ble_eq_true rfl, Nat.le_of_ble_eq_true rfl⟩ ?_
        show _ → kW G X m_Model_pushes C I 0 0 69 [.ref 88, .int x1, .int x2, .int x3] [.int p18, .ref 98, .int p17, .ref 98]
        refine kx_iald hX ok_Model_pushes (w := 8) (nx := 70) rfl (fun b19 => ?_)
        refine kx_go 2 (pc' := 72) (lv' := [.ref 88, .int x1, .int x2, .int x3]) (st' := [.int ((I 98 p18.toNatClampNeg) + (1 : Int32)), .int p17, .ref 98]) hX ok_Model_pushes rfl ?_
        refine kx_iast hX ok_Model_pushes (w := 8) (nx := 73) rfl (fun b20 => ?_)
        refine kx_lt (Q := fun J21 => kW G X m_Model_pushes C J21 0 0 73 [.ref 88, .int x1, .int x2, .int x3] []) (fun J21 eJ21 => ?_)
        refine kx_go 3 (pc' := 76) (lv' := [.ref 88, .int (1 : Int32), .int x2, .int x3]) (st' := [.ref 88]) hX ok_Model_pushes rfl ?_
        refine kx_getp hX ok_Model_pushes rfl (q := 99) (nx := 79) rfl ?_
        refine kx_go 2 (pc' := 81) (lv' := [.ref 88, .int (1 : Int32), .int x2, .int x3]) (st' := [.int x3, .ref 88, .ref 99]) hX ok_Model_pushes rfl ?_
        refine kx_bind (fun p22 hp22 => ?_)
        refine kx_V (r := 88) (as := [.int x3]) (by decide) hX ok_Model_pushes (nx := 84) rfl l_Model_205 (by decide) rfl (fun _ => s_Model_lower (G := G) (d := 0) (Nat.le_refl _) C J21 x3 p22 hp22) (by omega) rfl (rest := [.ref 99]) rfl (Nat.le_of_ble_eq_true rfl) ⟨Nat.le_of_ble_eq_true rfl, Nat.le_of_ble_eq_true rfl⟩ ?_
        show _ → kW G X m_Model_pushes C J21 0 0 84 [.ref 88, .int (1 : Int32), .int x2, .int x3] [.int p22, .ref 99]
        refine kx_iald hX ok_Model_pushes (w := 8) (nx := 85) rfl (fun b23 => ?_)
        refine kx_go 1 (pc' := 86) (lv' := [.ref 88, .int (1 : Int32), .int x2, .int x3]) (st' := [.ref 88, .int (J21 99 p22.toNatClampNeg)]) hX ok_Model_pushes rfl ?_
        refine kx_getp hX ok_Model_pushes rfl (q := 99) (nx := 89) rfl ?_
        refine kx_go 2 (pc' := 91) (lv' := [.ref 88, .int (1 : Int32), .int x2, .int x3]) (st' := [.int x3, .ref 88, .ref 99, .int (J21 99 p22.toNatClampNeg)]) hX ok_Model_pushes rfl ?_
        refine kx_bind (fun p24 hp24 => ?_)
        refine kx_V (r := 88) (as := [.int x3]) (by decide) hX ok_Model_pushes (nx := 94) rfl l_Model_194 (by decide) rfl (fun _ => s_Model_upper (G := G) (d := 0) (Nat.le_refl _) C J21 x3 p24 hp24) (by omega) rfl (rest := [.ref 99, .int (J21 99 p22.toNatClampNeg)]) rfl (Nat.le_of_ble_eq_true rfl) ⟨Nat.le_of_ble_eq_true rfl, Nat.le_of_ble_eq_true rfl⟩ ?_
        show _ → kW G X m_Model_pushes C J21 0 0 94 [.ref 88, .int (1 : Int32), .int x2, .int x3] [.int p24, .ref 99, .int (J21 99 p22.toNatClampNeg)]
        refine kx_iald hX ok_Model_pushes (w := 8) (nx := 95) rfl (fun b25 => ?_)
        refine kx_go 1 (pc' := if (J21 99 p22.toNatClampNeg) < (J21 99 p24.toNatClampNeg) then 122 else 98) (lv' := [.ref 88, .int (1 : Int32), .int x2, .int x3]) (st' := []) hX ok_Model_pushes rfl ?_
        refine kx_ite (fun c26 => ?_) (fun c26 => ?_)
        · refine kx_go 2 (pc' := 18) (lv' := [.ref 88, .int (1 : Int32), .int x2, .int (x3 + (1 : Int32))]) (st' := []) hX ok_Model_pushes rfl ?_
          exact fun h => ih (1 : Int32) (x3 + (1 : Int32)) J21 r hk h
        · refine kx_go 1 (pc' := 99) (lv' := [.ref 88, .int (1 : Int32), .int x2, .int x3]) (st' := [.ref 88]) hX ok_Model_pushes rfl ?_
          refine kx_getp hX ok_Model_pushes rfl (q := 99) (nx := 102) rfl ?_
          refine kx_go 2 (pc' := 104) (lv' := [.ref 88, .int (1 : Int32), .int x2, .int x3]) (st' := [.int x3, .ref 88, .ref 99]) hX ok_Model_pushes rfl ?_
          refine kx_bind (fun p27 hp27 => ?_)
          refine kx_V (r := 88) (as := [.int x3]) (by decide) hX ok_Model_pushes (nx := 107) rfl l_Model_205 (by decide) rfl (fun _ => s_Model_lower (G := G) (d := 0) (Nat.le_refl _) C J21 x3 p27 hp27) (by omega) rfl (rest := [.ref 99]) rfl (Nat.le_of_ble_eq_true rfl) ⟨Nat.le_of_ble_eq_true rfl, Nat.le_of_ble_eq_true rfl⟩ ?_
          show _ → kW G X m_Model_pushes C J21 0 0 107 [.ref 88, .int (1 : Int32), .int x2, .int x3] [.int p27, .ref 99]
          refine kx_go 1 (pc' := 108) (lv' := [.ref 88, .int (1 : Int32), .int x2, .int x3]) (st' := [.ref 88, .int p27, .ref 99]) hX ok_Model_pushes rfl ?_
          refine kx_getp hX ok_Model_pushes rfl (q := 99) (nx := 111) rfl ?_
          refine kx_go 2 (pc' := 113) (lv' := [.ref 88, .int (1 : Int32), .int x2, .int x3]) (st' := [.int x3, .ref 88, .ref 99, .int p27, .ref 99]) hX ok_Model_pushes rfl ?_
          refine kx_bind (fun p28 hp28 => ?_)
          refine kx_V (r := 88) (as := [.int x3]) (by decide) hX ok_Model_pushes (nx := 116) rfl l_Model_194 (by decide) rfl (fun _ => s_Model_upper (G := G) (d := 0) (Nat.le_refl _) C J21 x3 p28 hp28) (by omega) rfl (rest := [.ref 99, .int p27, .ref 99]) rfl (Nat.le_of_ble_eq_true rfl) ⟨Nat.le_of_ble_eq_true rfl, Nat.le_of_ble_eq_true rfl⟩ ?_
          show _ → kW G X m_Model_pushes C J21 0 0 116 [.ref 88, .int (1 : Int32), .int x2, .int x3] [.int p28, .ref 99, .int p27, .ref 99]
          refine kx_iald hX ok_Model_pushes (w := 8) (nx := 117) rfl (fun b29 => ?_)
          refine kx_go 2 (pc' := 119) (lv' := [.ref 88, .int (1 : Int32), .int x2, .int x3]) (st' := [.int ((J21 99 p28.toNatClampNeg) - (1 : Int32)), .int p27, .ref 99]) hX ok_Model_pushes rfl ?_
          refine kx_iast hX ok_Model_pushes (w := 8) (nx := 120) rfl (fun b30 => ?_)
          refine kx_lt (Q := fun J31 => kW G X m_Model_pushes C J31 0 0 120 [.ref 88, .int (1 : Int32), .int x2, .int x3] []) (fun J31 eJ31 => ?_)
          refine kx_go 4 (pc' := 18) (lv' := [.ref 88, .int (1 : Int32), .int x2, .int (x3 + (1 : Int32))]) (st' := []) hX ok_Model_pushes rfl ?_
          exact fun h => ih (1 : Int32) (x3 + (1 : Int32)) J31 r hk h
def L_Model_pushes_4  : Nat → Int32 → Int32 → HI → Option (Int32 × HI)
  | 0, _, _, _ => none
  | f + 1, x1, x2, I => if (8 : Int32) < x2 then (some (x1, I)) else (if x1 = (0 : Int32) then (some (x1, I)) else (Option.bind (L_Model_pushes_18 x2 1000 (0 : Int32) (0 : Int32) I) fun p3 => L_Model_pushes_4 f p3.1 (x2 + (1 : Int32)) p3.2))
theorem s_L_Model_pushes_4 {G : xG} {X : xC} {d : Nat} (hd : 1 ≤ d) (hX : xAmb G X m_Model_pushes d 0 0)  (C : HC) : ∀ (f : Nat) (x1 : Int32) (x2 : Int32) (I : HI) (r : Int32 × HI), (kW G X m_Model_pushes C r.2 0 0 134 [.ref 88, .int r.1, .null, .null] []) → L_Model_pushes_4 f x1 x2 I = some r → kW G X m_Model_pushes C I 0 0 4 [.ref 88, .int x1, .int x2, .null] [] := by
  intro f
  induction f with
  | zero => intro x1 x2 I r hk h; rw [L_Model_pushes_4] at h; cases h
  | succ f ih =>
    intro x1 x2 I r hk
    rw [L_Model_pushes_4]
    refine kx_go 3 (pc' := if (8 : Int32) < x2 then 134 else 10) (lv' := [.ref 88, .int x1, .int x2, .null]) (st' := []) hX ok_Model_pushes rfl ?_
    refine kx_ite (fun c1 => ?_) (fun c1 => ?_)
    · refine kx_weak (lv' := [.ref 88, .int x1, .null, .null]) (by simp [xsub]) ?_
      intro h; have h := Option.some.inj h; subst h
      exact hk
    · refine kx_go 2 (pc' := if x1 = (0 : Int32) then 134 else 14) (lv' := [.ref 88, .int x1, .int x2, .null]) (st' := []) hX ok_Model_pushes rfl ?_
      refine kx_ite (fun c2 => ?_) (fun c2 => ?_)
      · refine kx_weak (lv' := [.ref 88, .int x1, .null, .null]) (by simp [xsub]) ?_
        intro h; have h := Option.some.inj h; subst h
        exact hk
      · refine kx_go 4 (pc' := 18) (lv' := [.ref 88, .int (0 : Int32), .int x2, .int (0 : Int32)]) (st' := []) hX ok_Model_pushes rfl ?_
        refine kx_bind (fun p3 hp3 => ?_)
        refine kx_via (fun hk => s_L_Model_pushes_18 (G := G) (X := X) (by omega) hX C x2 1000 (0 : Int32) (0 : Int32) I p3 hk hp3) ?_
        refine kx_go 2 (pc' := 4) (lv' := [.ref 88, .int p3.1, .int (x2 + (1 : Int32)), .null]) (st' := []) hX ok_Model_pushes rfl ?_
        exact fun h => ih p3.1 (x2 + (1 : Int32)) p3.2 r hk h
def L_Model_pushes_136 (x1 : Int32) (I : HI) : Nat → Int32 → Option (Nat)
  | 0, _ => none
  | f + 1, x2 => if (I 89 0) ≤ x2 then (some 1) else (grd (bnd x2 8) (if (I 98 x2.toNatClampNeg) ≤ (I 99 x2.toNatClampNeg) then (L_Model_pushes_136 x1 I f (x2 + (1 : Int32))) else (some 0)))
theorem s_L_Model_pushes_136 {G : xG} {X : xC} {d : Nat} (hd : 1 ≤ d) (hX : xAmb G X m_Model_pushes d 0 0)  (C : HC) (x1 : Int32) (I : HI) : ∀ (f : Nat) (x2 : Int32) (r : Nat), (r = 0 → kW G X m_Model_pushes C I 0 0 161 [.null, .null, .null, .null] []) → (¬ r = 0 → kW G X m_Model_pushes C I 0 0 169 [.null, .int x1, .null, .null] []) → L_Model_pushes_136 x1 I f x2 = some r → kW G X m_Model_pushes C I 0 0 136 [.ref 88, .int x1, .int x2, .null] [] := by
  intro f
  induction f with
  | zero => intro x2 r hk0 hk1 h; rw [L_Model_pushes_136] at h; cases h
  | succ f ih =>
    intro x2 r hk0 hk1
    rw [L_Model_pushes_136]
    refine kx_go 2 (pc' := 138) (lv' := [.ref 88, .int x1, .int x2, .null]) (st' := [.ref 88, .int x2]) hX ok_Model_pushes rfl ?_
    refine kx_getp hX ok_Model_pushes rfl (q := 89) (nx := 141) rfl ?_
    refine kx_go 1 (pc' := 142) (lv' := [.ref 88, .int x1, .int x2, .null]) (st' := [.int (0 : Int32), .ref 89, .int x2]) hX ok_Model_pushes rfl ?_
    refine kx_ialdc hX ok_Model_pushes (w := 270) (nx := 143) rfl rfl (k := 0) rfl ?_
    refine kx_go 1 (pc' := if (I 89 0) ≤ x2 then 169 else 146) (lv' := [.ref 88, .int x1, .int x2, .null]) (st' := []) hX ok_Model_pushes rfl ?_
    refine kx_ite (fun c1 => ?_) (fun c1 => ?_)
    · refine kx_weak (lv' := [.null, .int x1, .null, .null]) (by simp [xsub]) ?_
      intro h; have h := Option.some.inj h; subst h
      exact hk1 (show ¬ (1 : Nat) = 0 by decide)
    · refine kx_go 1 (pc' := 147) (lv' := [.ref 88, .int x1, .int x2, .null]) (st' := [.ref 88]) hX ok_Model_pushes rfl ?_
      refine kx_getp hX ok_Model_pushes rfl (q := 98) (nx := 150) rfl ?_
      refine kx_go 1 (pc' := 151) (lv' := [.ref 88, .int x1, .int x2, .null]) (st' := [.int x2, .ref 98]) hX ok_Model_pushes rfl ?_
      refine kx_iald hX ok_Model_pushes (w := 8) (nx := 152) rfl (fun b2 => ?_)
      refine kx_go 1 (pc' := 153) (lv' := [.ref 88, .int x1, .int x2, .null]) (st' := [.ref 88, .int (I 98 x2.toNatClampNeg)]) hX ok_Model_pushes rfl ?_
      refine kx_getp hX ok_Model_pushes rfl (q := 99) (nx := 156) rfl ?_
      refine kx_go 1 (pc' := 157) (lv' := [.ref 88, .int x1, .int x2, .null]) (st' := [.int x2, .ref 99, .int (I 98 x2.toNatClampNeg)]) hX ok_Model_pushes rfl ?_
      refine kx_ialdc hX ok_Model_pushes (w := 8) (nx := 158) rfl b2 (k := x2.toNatClampNeg) rfl ?_
      refine kx_go 1 (pc' := if (I 98 x2.toNatClampNeg) ≤ (I 99 x2.toNatClampNeg) then 163 else 161) (lv' := [.ref 88, .int x1, .int x2, .null]) (st' := []) hX ok_Model_pushes rfl ?_
      refine kx_ite (fun c3 => ?_) (fun c3 => ?_)
      · refine kx_go 2 (pc' := 136) (lv' := [.ref 88, .int x1, .int (x2 + (1 : Int32)), .null]) (st' := []) hX ok_Model_pushes rfl ?_
        exact fun h => ih (x2 + (1 : Int32)) r hk0 hk1 h
      · refine kx_weak (lv' := [.null, .null, .null, .null]) (by simp [xsub]) ?_
        intro h; have h := Option.some.inj h; subst h
        exact hk0 rfl
def M_Model_pushes (I : HI) : Option (Int32 × HI) := Option.bind (L_Model_pushes_4 1000 (1 : Int32) (0 : Int32) I) fun p1 => Option.bind (L_Model_pushes_136 p1.1 p1.2 1000 (0 : Int32)) fun p2 => if p2 = 0 then (some ((0 : Int32), p1.2)) else (if p1.1 = (0 : Int32) then (some ((1 : Int32), p1.2)) else (some ((0 : Int32), p1.2)))
theorem s_Model_pushes {G : xG} {d : Nat} (hd : 1 ≤ d) (C : HC) (I : HI)   (r : Int32 × HI) : M_Model_pushes I = some r → kM G d m_Model_pushes [.ref 88] C I 0 0 (some (.int r.1)) C r.2 := by
  unfold M_Model_pushes
  refine kM.of (by decide +kernel) (Nat.le_of_ble_eq_true rfl) (lv := [.ref 88, .null, .null, .null]) rfl (fun X hX hE => ?_)
  refine kx_go 4 (pc' := 4) (lv' := [.ref 88, .int (1 : Int32), .int (0 : Int32), .null]) (st' := []) hX ok_Model_pushes rfl ?_
  refine kx_bind (fun p1 hp1 => ?_)
  refine kx_via (fun hk => s_L_Model_pushes_4 (G := G) (X := X) (by omega) hX C 1000 (1 : Int32) (0 : Int32) I p1 hk hp1) ?_
  refine kx_go 2 (pc' := 136) (lv' := [.ref 88, .int p1.1, .int (0 : Int32), .null]) (st' := []) hX ok_Model_pushes rfl ?_
  refine kx_bind (fun p2 hp2 => ?_)
  refine kx_via2 (fun hk0 hk1 => s_L_Model_pushes_136 (G := G) (X := X) (by omega) hX C p1.1 p1.2 1000 (0 : Int32) p2 hk0 hk1 hp2) (fun _ => ?_) (fun _ => ?_)
  · refine kx_go 1 (pc' := 162) (lv' := [.null, .null, .null, .null]) (st' := [.int (0 : Int32)]) hX ok_Model_pushes rfl ?_
    intro h; have h := Option.some.inj h; subst h
    exact kx_zret hX hE ok_Model_pushes (nx := 163) rfl rfl (Or.inl rfl) ⟨Nat.le_of_ble_eq_true rfl, Nat.le_of_ble_eq_true rfl⟩
  · refine kx_go 2 (pc' := if p1.1 = (0 : Int32) then 173 else 177) (lv' := [.null, .int p1.1, .null, .null]) (st' := []) hX ok_Model_pushes rfl ?_
    refine kx_ite (fun c3 => ?_) (fun c3 => ?_)
    · refine kx_go 2 (pc' := 178) (lv' := [.null, .int p1.1, .null, .null]) (st' := [.int (1 : Int32)]) hX ok_Model_pushes rfl ?_
      intro h; have h := Option.some.inj h; subst h
      exact kx_zret hX hE ok_Model_pushes (nx := 179) rfl rfl (Or.inr rfl) ⟨Nat.le_of_ble_eq_true rfl, Nat.le_of_ble_eq_true rfl⟩
    · refine kx_go 1 (pc' := 178) (lv' := [.null, .int p1.1, .null, .null]) (st' := [.int (0 : Int32)]) hX ok_Model_pushes rfl ?_
      intro h; have h := Option.some.inj h; subst h
      exact kx_zret hX hE ok_Model_pushes (nx := 179) rfl rfl (Or.inl rfl) ⟨Nat.le_of_ble_eq_true rfl, Nat.le_of_ble_eq_true rfl⟩
