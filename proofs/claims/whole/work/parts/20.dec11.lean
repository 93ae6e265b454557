def M_H_text (C : HC) (I : HI) (x1 : Int32) : Option (Int32 × HC × HI) := if (M_Wall_within x1 (1 : Int32)) = (0 : Int32) then (Option.bind (M_H_error I (1 : Int32)) fun p2 => some (p2.1, C, p2.2)) else (Option.bind (M_Wall_readTape C I x1) fun p3 => if (0 : Int32) ≤ p3.1 then (some (((-10 : Int32) - p3.1), p3.2.1, p3.2.2)) else (some ((1 : Int32), p3.2.1, p3.2.2)))
theorem s_H_text {G : xG} {d : Nat} (hd : 544 ≤ d) (C : HC) (I : HI) (x1 : Int32)  (r : Int32 × HC × HI) : M_H_text C I x1 = some r → kM G d m_H_text [.ref 0, .int x1] C I 0 0 (some (.int r.1)) r.2.1 r.2.2 := by
  unfold M_H_text
  refine kM.of (by decide +kernel) (Nat.le_of_ble_eq_true rfl) (lv := [.ref 0, .int x1, .null]) rfl (fun X hX hE => ?_)
  refine kx_go 2 (pc' := 2) (lv' := [.ref 0, .int x1, .null]) (st' := [.int (1 : Int32), .int x1]) hX ok_H_text rfl ?_
  refine kx_S (as := [.int x1, .int (1 : Int32)]) hX ok_H_text (nx := 5) rfl l_H_56 (fun _ => s_Wall_within (G := G) (d := 0) (Nat.le_refl _) C I x1 (1 : Int32) _ rfl) (by omega) rfl (rest := []) rfl (Nat.le_of_ble_eq_true rfl) ⟨Nat.le_of_ble_eq_true rfl, Nat.le_of_ble_eq_true rfl⟩ ?_
  show _ → kW G X m_H_text C I 0 0 5 [.ref 0, .int x1, .null] [.int (M_Wall_within x1 (1 : Int32))]
  refine kx_go 1 (pc' := if (M_Wall_within x1 (1 : Int32)) = (0 : Int32) then 8 else 14) (lv' := [.ref 0, .int x1, .null]) (st' := []) hX ok_H_text rfl ?_
  refine kx_ite (fun c1 => ?_) (fun c1 => ?_)
  · refine kx_go 2 (pc' := 10) (lv' := [.ref 0, .int x1, .null]) (st' := [.int (1 : Int32), .ref 0]) hX ok_H_text rfl ?_
    refine kx_bind (fun p2 hp2 => ?_)
    refine kx_V (r := 0) (as := [.int (1 : Int32)]) (by decide) hX ok_H_text (nx := 13) rfl l_H_60 (by decide) rfl (fun _ => s_H_error (G := G) (d := 0) (Nat.le_refl _) C I (1 : Int32) p2 hp2) (by omega) rfl (rest := []) rfl (Nat.le_of_ble_eq_true rfl) ⟨Nat.le_of_ble_eq_true rfl, Nat.le_of_ble_eq_true rfl⟩ ?_
    show _ → kW G X m_H_text C p2.2 0 0 13 [.ref 0, .int x1, .null] [.int p2.1]
    intro h; have h := Option.some.inj h; subst h
    exact kx_iret hX hE ok_H_text (nx := 14) rfl rfl ⟨Nat.le_of_ble_eq_true rfl, Nat.le_of_ble_eq_true rfl⟩
  · refine kx_go 1 (pc' := 15) (lv' := [.ref 0, .int x1, .null]) (st' := [.ref 0]) hX ok_H_text rfl ?_
    refine kx_getp hX ok_H_text rfl (q := 1) (nx := 18) rfl ?_
    refine kx_go 1 (pc' := 19) (lv' := [.ref 0, .int x1, .null]) (st' := [.int x1, .ref 1]) hX ok_H_text rfl ?_
    refine kx_bind (fun p3 hp3 => ?_)
    refine kx_V (r := 1) (as := [.int x1]) (by decide) hX ok_H_text (nx := 22) rfl l_H_145 (by decide) rfl (fun _ => s_Wall_readTape (G := G) (d := 543) (Nat.le_refl _) C I x1 p3 hp3) (by omega) rfl (rest := []) rfl (Nat.le_of_ble_eq_true rfl) ⟨Nat.le_of_ble_eq_true rfl, Nat.le_of_ble_eq_true rfl⟩ ?_
    show _ → kW G X m_H_text p3.2.1 p3.2.2 0 0 22 [.ref 0, .int x1, .null] [.int p3.1]
    refine kx_go 3 (pc' := if (0 : Int32) ≤ p3.1 then 31 else 27) (lv' := [.ref 0, .int x1, .int p3.1]) (st' := []) hX ok_H_text rfl ?_
    refine kx_ite (fun c4 => ?_) (fun c4 => ?_)
    · refine kx_go 3 (pc' := 35) (lv' := [.ref 0, .int x1, .int p3.1]) (st' := [.int ((-10 : Int32) - p3.1)]) hX ok_H_text rfl ?_
      intro h; have h := Option.some.inj h; subst h
      exact kx_iret hX hE ok_H_text (nx := 36) rfl rfl ⟨Nat.le_of_ble_eq_true rfl, Nat.le_of_ble_eq_true rfl⟩
    · refine kx_go 2 (pc' := 35) (lv' := [.ref 0, .int x1, .int p3.1]) (st' := [.int (1 : Int32)]) hX ok_H_text rfl ?_
      intro h; have h := Option.some.inj h; subst h
      exact kx_iret hX hE ok_H_text (nx := 36) rfl rfl ⟨Nat.le_of_ble_eq_true rfl, Nat.le_of_ble_eq_true rfl⟩
def M_H_law (I : HI) (x1 : Int32) (x2 : Int32) (x3 : Int32) (x4 : Int32) (x5 : Int32) : Option (Int32 × HI) := if (M_Wall_within x1 (1 : Int32)) = (0 : Int32) then (Option.bind (M_H_error I (1 : Int32)) fun p2 => some (p2.1, p2.2)) else (Option.bind (M_Wall_givenBy I x1 x2 x3 x4 x5) fun p3 => some (p3.1, p3.2))
theorem s_H_law {G : xG} {d : Nat} (hd : 3 ≤ d) (C : HC) (I : HI) (x1 : Int32) (x2 : Int32) (x3 : Int32) (x4 : Int32) (x5 : Int32)  (r : Int32 × HI) : M_H_law I x1 x2 x3 x4 x5 = some r → kM G d m_H_law [.ref 0, .int x1, .int x2, .int x3, .int x4, .int x5] C I 0 0 (some (.int r.1)) C r.2 := by
  unfold M_H_law
  refine kM.of (by decide +kernel) (Nat.le_of_ble_eq_true rfl) (lv := [.ref 0, .int x1, .int x2, .int x3, .int x4, .int x5]) rfl (fun X hX hE => ?_)
  refine kx_go 2 (pc' := 2) (lv' := [.ref 0, .int x1, .int x2, .int x3, .int x4, .int x5]) (st' := [.int (1 : Int32), .int x1]) hX ok_H_law rfl ?_
  refine kx_S (as := [.int x1, .int (1 : Int32)]) hX ok_H_law (nx := 5) rfl l_H_56 (fun _ => s_Wall_within (G := G) (d := 0) (Nat.le_refl _) C I x1 (1 : Int32) _ rfl) (by omega) rfl (rest := []) rfl (Nat.le_of_ble_eq_true rfl) ⟨Nat.le_of_ble_eq_true rfl, Nat.le_of_ble_eq_true rfl⟩ ?_
  show _ → kW G X m_H_law C I 0 0 5 [.ref 0, .int x1, .int x2, .int x3, .int x4, .int x5] [.int (M_Wall_within x1 (1 : Int32))]
  refine kx_go 1 (pc' := if (M_Wall_within x1 (1 : Int32)) = (0 : Int32) then 8 else 14) (lv' := [.ref 0, .int x1, .int x2, .int x3, .int x4, .int x5]) (st' := []) hX ok_H_law rfl ?_
  refine kx_ite (fun c1 => ?_) (fun c1 => ?_)
  · refine kx_go 2 (pc' := 10) (lv' := [.ref 0, .int x1, .int x2, .int x3, .int x4, .int x5]) (st' := [.int (1 : Int32), .ref 0]) hX ok_H_law rfl ?_
    refine kx_bind (fun p2 hp2 => ?_)
    refine kx_V (r := 0) (as := [.int (1 : Int32)]) (by decide) hX ok_H_law (nx := 13) rfl l_H_60 (by decide) rfl (fun _ => s_H_error (G := G) (d := 0) (Nat.le_refl _) C I (1 : Int32) p2 hp2) (by omega) rfl (rest := []) rfl (Nat.le_of_ble_eq_true rfl) ⟨Nat.le_of_ble_eq_true rfl, Nat.le_of_ble_eq_true rfl⟩ ?_
    show _ → kW G X m_H_law C p2.2 0 0 13 [.ref 0, .int x1, .int x2, .int x3, .int x4, .int x5] [.int p2.1]
    intro h; have h := Option.some.inj h; subst h
    exact kx_iret hX hE ok_H_law (nx := 14) rfl rfl ⟨Nat.le_of_ble_eq_true rfl, Nat.le_of_ble_eq_true rfl⟩
  · refine kx_go 1 (pc' := 15) (lv' := [.ref 0, .int x1, .int x2, .int x3, .int x4, .int x5]) (st' := [.ref 0]) hX ok_H_law rfl ?_
    refine kx_getp hX ok_H_law rfl (q := 1) (nx := 18) rfl ?_
    refine kx_go 5 (pc' := 25) (lv' := [.ref 0, .int x1, .int x2, .int x3, .int x4, .int x5]) (st' := [.int x5, .int x4, .int x3, .int x2, .int x1, .ref 1]) hX ok_H_law rfl ?_
    refine kx_bind (fun p3 hp3 => ?_)
    refine kx_V (r := 1) (as := [.int x1, .int x2, .int x3, .int x4, .int x5]) (by decide) hX ok_H_law (nx := 28) rfl l_H_148 (by decide) rfl (fun _ => s_Wall_givenBy (G := G) (d := 2) (Nat.le_refl _) C I x1 x2 x3 x4 x5 p3 hp3) (by omega) rfl (rest := []) rfl (Nat.le_of_ble_eq_true rfl) ⟨Nat.le_of_ble_eq_true rfl, Nat.le_of_ble_eq_true rfl⟩ ?_
    show _ → kW G X m_H_law C p3.2 0 0 28 [.ref 0, .int x1, .int x2, .int x3, .int x4, .int x5] [.int p3.1]
    intro h; have h := Option.some.inj h; subst h
    exact kx_iret hX hE ok_H_law (nx := 29) rfl rfl ⟨Nat.le_of_ble_eq_true rfl, Nat.le_of_ble_eq_true rfl⟩
def L_Sets_findBelow_2  : Nat → Int32 → HI → Option (HI)
  | 0, _, _ => none
  | f + 1, x2, I => if (8 : Int32) ≤ x2 then (some I) else (grd (bnd x2 8) (lt (xu I 65 x2.toNatClampNeg (0 : Int32)) fun J3 => L_Sets_findBelow_2 f (x2 + (1 : Int32)) J3))
theorem s_L_Sets_findBelow_2 {G : xG} {X : xC} {d : Nat} (hd : 0 ≤ d) (hX : xAmb G X m_Sets_findBelow d 0 0)  (C : HC) : ∀ (f : Nat) (x2 : Int32) (I : HI) (r : HI), (kW G X m_Sets_findBelow C r 0 0 21 [.ref 63, .ref 1, .null] []) → L_Sets_findBelow_2 f x2 I = some r → kW G X m_Sets_findBelow C I 0 0 2 [.ref 63, .ref 1, .int x2] [] := by
  intro f
  induction f with
  | zero => intro x2 I r hk h; rw [L_Sets_findBelow_2] at h; cases h
  | succ f ih =>
    intro x2 I r hk
    rw [L_Sets_findBelow_2]
    refine kx_go 3 (pc' := if (8 : Int32) ≤ x2 then 21 else 8) (lv' := [.ref 63, .ref 1, .int x2]) (st' := []) hX ok_Sets_findBelow rfl ?_
    refine kx_ite (fun c1 => ?_) (fun c1 => ?_)
    · refine kx_weak (lv' := [.ref 63, .ref 1, .null]) (by simp [xsub]) ?_
      intro h; have h := Option.some.inj h; subst h
      exact hk
    · refine kx_go 1 (pc' := 9) (lv' := [.ref 63, .ref 1, .int x2]) (st' := [.ref 63]) hX ok_Sets_findBelow rfl ?_
      refine kx_getp hX ok_Sets_findBelow rfl (q := 65) (nx := 12) rfl ?_
      refine kx_go 2 (pc' := 14) (lv' := [.ref 63, .ref 1, .int x2]) (st' := [.int (0 : Int32), .int x2, .ref 65]) hX ok_Sets_findBelow rfl ?_
      refine kx_iast hX ok_Sets_findBelow (w := 8) (nx := 15) rfl (fun b2 => ?_)
      refine kx_lt (Q := fun J3 => kW G X m_Sets_findBelow C J3 0 0 15 [.ref 63, .ref 1, .int x2] []) (fun J3 eJ3 => ?_)
      refine kx_go 2 (pc' := 2) (lv' := [.ref 63, .ref 1, .int (x2 + (1 : Int32))]) (st' := []) hX ok_Sets_findBelow rfl ?_
      exact fun h => ih (x2 + (1 : Int32)) J3 r hk h
def L_Sets_findBelow_23  : Nat → Int32 → HI → Option (HI)
  | 0, _, _ => none
  | f + 1, x2, I => if (I 1 5) ≤ x2 then (some I) else (grd (bnd x2 12) (grd (bnd (I 11 x2.toNatClampNeg) 8) (lt (xu I 65 (I 11 x2.toNatClampNeg).toNatClampNeg ((I 65 (I 11 x2.toNatClampNeg).toNatClampNeg) ||| ((1 : Int32) <<< ((I 12 x2.toNatClampNeg) &&& (31 : Int32))))) fun J4 => L_Sets_findBelow_23 f (x2 + (1 : Int32)) J4)))
theorem s_L_Sets_findBelow_23 {G : xG} {X : xC} {d : Nat} (hd : 0 ≤ d) (hX : xAmb G X m_Sets_findBelow d 0 0)  (C : HC) : ∀ (f : Nat) (x2 : Int32) (I : HI) (r : HI), (kW G X m_Sets_findBelow C r 0 0 59 [.null, .null, .null] []) → L_Sets_findBelow_23 f x2 I = some r → kW G X m_Sets_findBelow C I 0 0 23 [.ref 63, .ref 1, .int x2] [] := by
  intro f
  induction f with
  | zero => intro x2 I r hk h; rw [L_Sets_findBelow_23] at h; cases h
  | succ f ih =>
    intro x2 I r hk
    rw [L_Sets_findBelow_23]
    refine kx_go 2 (pc' := 25) (lv' := [.ref 63, .ref 1, .int x2]) (st' := [.ref 1, .int x2]) hX ok_Sets_findBelow rfl ?_
    refine kx_geti hX ok_Sets_findBelow rfl (k := 5) (nx := 28) rfl ?_
    refine kx_go 1 (pc' := if (I 1 5) ≤ x2 then 59 else 31) (lv' := [.ref 63, .ref 1, .int x2]) (st' := []) hX ok_Sets_findBelow rfl ?_
    refine kx_ite (fun c1 => ?_) (fun c1 => ?_)
    · refine kx_weak (lv' := [.null, .null, .null]) (by simp [xsub]) ?_
      intro h; have h := Option.some.inj h; subst h
      exact hk
    · refine kx_go 1 (pc' := 32) (lv' := [.ref 63, .ref 1, .int x2]) (st' := [.ref 63]) hX ok_Sets_findBelow rfl ?_
      refine kx_getp hX ok_Sets_findBelow rfl (q := 65) (nx := 35) rfl ?_
      refine kx_go 1 (pc' := 36) (lv' := [.ref 63, .ref 1, .int x2]) (st' := [.ref 1, .ref 65]) hX ok_Sets_findBelow rfl ?_
      refine kx_getp hX ok_Sets_findBelow rfl (q := 11) (nx := 39) rfl ?_
      refine kx_go 1 (pc' := 40) (lv' := [.ref 63, .ref 1, .int x2]) (st' := [.int x2, .ref 11, .ref 65]) hX ok_Sets_findBelow rfl ?_
      refine kx_iald hX ok_Sets_findBelow (w := 12) (nx := 41) rfl (fun b2 => ?_)
      refine kx_go 1 (pc' := 42) (lv' := [.ref 63, .ref 1, .int x2]) (st' := [.int (I 11 x2.toNatClampNeg), .ref 65, .int (I 11 x2.toNatClampNeg), .ref 65]) hX ok_Sets_findBelow rfl ?_
      refine kx_iald hX ok_Sets_findBelow (w := 8) (nx := 43) rfl (fun b3 => ?_)
      refine kx_go 2 (pc' := 45) (lv' := [.ref 63, .ref 1, .int x2]) (st' := [.ref 1, .int (1 : Int32), .int (I 65 (I 11 x2.toNatClampNeg).toNatClampNeg), .int (I 11 x2.toNatClampNeg), .ref 65]) hX ok_Sets_findBelow rfl ?_
      refine kx_getp hX ok_Sets_findBelow rfl (q := 12) (nx := 48) rfl ?_
      refine kx_go 1 (pc' := 49) (lv' := [.ref 63, .ref 1, .int x2]) (st' := [.int x2, .ref 12, .int (1 : Int32), .int (I 65 (I 11 x2.toNatClampNeg).toNatClampNeg), .int (I 11 x2.toNatClampNeg), .ref 65]) hX ok_Sets_findBelow rfl ?_
      refine kx_ialdc hX ok_Sets_findBelow (w := 12) (nx := 50) rfl b2 (k := x2.toNatClampNeg) rfl ?_
      refine kx_go 2 (pc' := 52) (lv' := [.ref 63, .ref 1, .int x2]) (st' := [.int ((I 65 (I 11 x2.toNatClampNeg).toNatClampNeg) ||| ((1 : Int32) <<< ((I 12 x2.toNatClampNeg) &&& (31 : Int32)))), .int (I 11 x2.toNatClampNeg), .ref 65]) hX ok_Sets_findBelow rfl ?_
      refine kx_iastc hX ok_Sets_findBelow (w := 8) (nx := 53) rfl b3 (k := (I 11 x2.toNatClampNeg).toNatClampNeg) rfl ?_
      refine kx_lt (Q := fun J4 => kW G X m_Sets_findBelow C J4 0 0 53 [.ref 63, .ref 1, .int x2] []) (fun J4 eJ4 => ?_)
      refine kx_go 2 (pc' := 23) (lv' := [.ref 63, .ref 1, .int (x2 + (1 : Int32))]) (st' := []) hX ok_Sets_findBelow rfl ?_
      exact fun h => ih (x2 + (1 : Int32)) J4 r hk h
def M_Sets_findBelow (I : HI) : Option (HI) := Option.bind (L_Sets_findBelow_2 1000 (0 : Int32) I) fun p1 => Option.bind (L_Sets_findBelow_23 1000 (0 : Int32) p1) fun p2 => some p2
theorem s_Sets_findBelow {G : xG} {d : Nat} (hd : 0 ≤ d) (C : HC) (I : HI)   (r : HI) : M_Sets_findBelow I = some r → kM G d m_Sets_findBelow [.ref 63, .ref 1] C I 0 0 none C r := by
  unfold M_Sets_findBelow
  refine kM.of (by decide +kernel) (Nat.le_of_ble_eq_true rfl) (lv := [.ref 63, .ref 1, .null]) rfl (fun X hX hE => ?_)
  refine kx_go 2 (pc' := 2) (lv' := [.ref 63, .ref 1, .int (0 : Int32)]) (st' := []) hX ok_Sets_findBelow rfl ?_
  refine kx_bind (fun p1 hp1 => ?_)
  refine kx_via (fun hk => s_L_Sets_findBelow_2 (G := G) (X := X) (by omega) hX C 1000 (0 : Int32) I p1 hk hp1) ?_
  refine kx_go 2 (pc' := 23) (lv' := [.ref 63, .ref 1, .int (0 : Int32)]) (st' := []) hX ok_Sets_findBelow rfl ?_
  refine kx_bind (fun p2 hp2 => ?_)
  refine kx_via (fun hk => s_L_Sets_findBelow_23 (G := G) (X := X) (by omega) hX C 1000 (0 : Int32) p1 p2 hk hp2) ?_
  intro h; have h := Option.some.inj h; subst h
  exact kx_vret hX hE ok_Sets_findBelow (nx := 60) rfl rfl ⟨Nat.le_of_ble_eq_true rfl, Nat.le_of_ble_eq_true rfl⟩
def M_Sets_allOf (I : HI) : Int32 := (((1 : Int32) <<< ((I 1 1) &&& (31 : Int32))) - (1 : Int32))
theorem s_Sets_allOf {G : xG} {d : Nat} (hd : 0 ≤ d) (C : HC) (I : HI)   (r : Int32) : M_Sets_allOf I = r → kM G d m_Sets_allOf [.ref 1] C I 0 0 (some (.int r)) C I := by
  unfold M_Sets_allOf
  refine kM.of (by decide +kernel) (Nat.le_of_ble_eq_true rfl) (lv := [.ref 1]) rfl (fun X hX hE => ?_)
  refine kx_go 2 (pc' := 2) (lv' := [.ref 1]) (st' := [.ref 1, .int (1 : Int32)]) hX ok_Sets_allOf rfl ?_
  refine kx_geti hX ok_Sets_allOf rfl (k := 1) (nx := 5) rfl ?_
  refine kx_go 3 (pc' := 8) (lv' := [.ref 1]) (st' := [.int (((1 : Int32) <<< ((I 1 1) &&& (31 : Int32))) - (1 : Int32))]) hX ok_Sets_allOf rfl ?_
  rintro rfl
  exact kx_iret hX hE ok_Sets_allOf (nx := 9) rfl rfl ⟨Nat.le_of_ble_eq_true rfl, Nat.le_of_ble_eq_true rfl⟩
def M_Sets_has (x0 : Int32) (x1 : Int32) : Int32 := if ((x0 >>> (x1 &&& (31 : Int32))) &&& (1 : Int32)) = (0 : Int32) then ((0 : Int32)) else ((1 : Int32))
theorem s_Sets_has {G : xG} {d : Nat} (hd : 0 ≤ d) (C : HC) (I : HI) (x0 : Int32) (x1 : Int32)  (r : Int32) : M_Sets_has x0 x1 = r → kM G d m_Sets_has [.int x0, .int x1] C I 0 0 (some (.int r)) C I := by
  unfold M_Sets_has
  refine kM.of (by decide +kernel) (Nat.le_of_ble_eq_true rfl) (lv := [.int x0, .int x1]) rfl (fun X hX hE => ?_)
  refine kx_go 6 (pc' := if ((x0 >>> (x1 &&& (31 : Int32))) &&& (1 : Int32)) = (0 : Int32) then 12 else 8) (lv' := [.int x0, .int x1]) (st' := []) hX ok_Sets_has rfl ?_
  refine kx_ite (fun c1 => ?_) (fun c1 => ?_)
  · refine kx_go 1 (pc' := 13) (lv' := [.int x0, .int x1]) (st' := [.int (0 : Int32)]) hX ok_Sets_has rfl ?_
    rintro rfl
    exact kx_zret hX hE ok_Sets_has (nx := 14) rfl rfl (Or.inl rfl) ⟨Nat.le_of_ble_eq_true rfl, Nat.le_of_ble_eq_true rfl⟩
  · refine kx_go 2 (pc' := 13) (lv' := [.int x0, .int x1]) (st' := [.int (1 : Int32)]) hX ok_Sets_has rfl ?_
    rintro rfl
    exact kx_zret hX hE ok_Sets_has (nx := 14) rfl rfl (Or.inr rfl) ⟨Nat.le_of_ble_eq_true rfl, Nat.le_of_ble_eq_true rfl⟩
def L_Sets_readyAfter_5 (x1 : Int32) (x2 : Int32) (I : HI) : Nat → Int32 → Int32 → Option (Int32)
  | 0, _, _ => none
  | f + 1, x3, x4 => if x2 ≤ x4 then (some x3) else (if (M_Sets_has x1 x4) = (0 : Int32) then (grd (bnd x4 8) (if ((I 65 x4.toNatClampNeg) &&& (x1 ^^^ (-1 : Int32))) = (0 : Int32) then (L_Sets_readyAfter_5 x1 x2 I f (x3 ||| ((1 : Int32) <<< (x4 &&& (31 : Int32)))) (x4 + (1 : Int32))) else (L_Sets_readyAfter_5 x1 x2 I f x3 (x4 + (1 : Int32))))) else (L_Sets_readyAfter_5 x1 x2 I f x3 (x4 + (1 : Int32))))
theorem s_L_Sets_readyAfter_5 {G : xG} {X : xC} {d : Nat} (hd : 1 ≤ d) (hX : xAmb G X m_Sets_readyAfter d 0 0)  (C : HC) (x1 : Int32) (x2 : Int32) (I : HI) : ∀ (f : Nat) (x3 : Int32) (x4 : Int32) (r : Int32), (kW G X m_Sets_readyAfter C I 0 0 47 [.null, .null, .null, .int r, .null] []) → L_Sets_readyAfter_5 x1 x2 I f x3 x4 = some r → kW G X m_Sets_readyAfter C I 0 0 5 [.ref 63, .int x1, .int x2, .int x3, .int x4] [] := by
  intro f
  induction f with
  | zero => intro x3 x4 r hk h; rw [L_Sets_readyAfter_5] at h; cases h
  | succ f ih =>
    intro x3 x4 r hk
    rw [L_Sets_readyAfter_5]
    refine kx_go 3 (pc' := if x2 ≤ x4 then 47 else 11) (lv' := [.ref 63, .int x1, .int x2, .int x3, .int x4]) (st' := []) hX ok_Sets_readyAfter rfl ?_
    refine kx_ite (fun c1 => ?_) (fun c1 => ?_)
    · refine kx_weak (lv' := [.null, .null, .null, .int x3, .null]) (by simp [xsub]) ?_
      intro h; have h := Option.some.inj h; subst h
      exact hk
    · refine kx_go 2 (pc' := 14) (lv' := [.ref 63, .int x1, .int x2, .int x3, .int x4]) (st' := [.int x4, .int x1]) hX ok_Sets_readyAfter rfl ?_
      refine kx_S (as := [.int x1, .int x4]) hX ok_Sets_readyAfter (nx := 17) rfl l_Sets_52 (fun _ => s_Sets_has (G := G) (d := 0) (Nat.le_refl _) C I x1 x4 _ rfl) (by omega) rfl (rest := []) rfl (Nat.le_of_ble_eq_true rfl) ⟨Nat.le_of_ble_eq_true rfl, Nat.le_of_ble_eq_true rfl⟩ ?_
      show _ → kW G X m_Sets_readyAfter C I 0 0 17 [.ref 63, .int x1, .int x2, .int x3, .int x4] [.int (M_Sets_has x1 x4)]
      refine kx_go 1 (pc' := if (M_Sets_has x1 x4) = (0 : Int32) then 20 else 41) (lv' := [.ref 63, .int x1, .int x2, .int x3, .int x4]) (st' := []) hX ok_Sets_readyAfter rfl ?_
      refine kx_ite (fun c2 => ?_) (fun c2 => ?_)
      · refine kx_go 1 (pc' := 21) (lv' := [.ref 63, .int x1, .int x2, .int x3, .int x4]) (st' := [.ref 63]) hX ok_Sets_readyAfter rfl ?_
        refine kx_getp hX ok_Sets_readyAfter rfl (q := 65) (nx := 24) rfl ?_
        refine kx_go 1 (pc' := 26) (lv' := [.ref 63, .int x1, .int x2, .int x3, .int x4]) (st' := [.int x4, .ref 65]) hX ok_Sets_readyAfter rfl ?_
        refine kx_iald hX ok_Sets_readyAfter (w := 8) (nx := 27) rfl (fun b3 => ?_)
        refine kx_go 5 (pc' := if ((I 65 x4.toNatClampNeg) &&& (x1 ^^^ (-1 : Int32))) = (0 : Int32) then 34 else 41) (lv' := [.ref 63, .int x1, .int x2, .int x3, .int x4]) (st' := []) hX ok_Sets_readyAfter rfl ?_
        refine kx_ite (fun c4 => ?_) (fun c4 => ?_)
        · refine kx_go 8 (pc' := 5) (lv' := [.ref 63, .int x1, .int x2, .int (x3 ||| ((1 : Int32) <<< (x4 &&& (31 : Int32)))), .int (x4 + (1 : Int32))]) (st' := []) hX ok_Sets_readyAfter rfl ?_
          exact fun h => ih (x3 ||| ((1 : Int32) <<< (x4 &&& (31 : Int32)))) (x4 + (1 : Int32)) r hk h
        · refine kx_go 2 (pc' := 5) (lv' := [.ref 63, .int x1, .int x2, .int x3, .int (x4 + (1 : Int32))]) (st' := []) hX ok_Sets_readyAfter rfl ?_
          exact fun h => ih x3 (x4 + (1 : Int32)) r hk h
      · refine kx_go 2 (pc' := 5) (lv' := [.ref 63, .int x1, .int x2, .int x3, .int (x4 + (1 : Int32))]) (st' := []) hX ok_Sets_readyAfter rfl ?_
        exact fun h => ih x3 (x4 + (1 : Int32)) r hk h
def M_Sets_readyAfter (I : HI) (x1 : Int32) (x2 : Int32) : Option (Int32) := Option.bind (L_Sets_readyAfter_5 x1 x2 I 1000 (0 : Int32) (0 : Int32)) fun p1 => some p1
theorem s_Sets_readyAfter {G : xG} {d : Nat} (hd : 1 ≤ d) (C : HC) (I : HI) (x1 : Int32) (x2 : Int32)  (r : Int32) : M_Sets_readyAfter I x1 x2 = some r → kM G d m_Sets_readyAfter [.ref 63, .int x1, .int x2] C I 0 0 (some (.int r)) C I := by
  unfold M_Sets_readyAfter
  refine kM.of (by decide +kernel) (Nat.le_of_ble_eq_true rfl) (lv := [.ref 63, .int x1, .int x2, .null, .null]) rfl (fun X hX hE => ?_)
  refine kx_go 4 (pc' := 5) (lv' := [.ref 63, .int x1, .int x2, .int (0 : Int32), .int (0 : Int32)]) (st' := []) hX ok_Sets_readyAfter rfl ?_
  refine kx_bind (fun p1 hp1 => ?_)
  refine kx_via (fun hk => s_L_Sets_readyAfter_5 (G := G) (X := X) (by omega) hX C x1 x2 I 1000 (0 : Int32) (0 : Int32) p1 hk hp1) ?_
  refine kx_go 1 (pc' := 48) (lv' := [.null, .null, .null, .int p1, .null]) (st' := [.int p1]) hX ok_Sets_readyAfter rfl ?_
  intro h; have h := Option.some.inj h; subst h
  exact kx_iret hX hE ok_Sets_readyAfter (nx := 49) rfl rfl ⟨Nat.le_of_ble_eq_true rfl, Nat.le_of_ble_eq_true rfl⟩
def L_Sets_countOrders_12 (x2 : Int32) : Nat → Int32 → HI → Option (HI)
  | 0, _, _ => none
  | f + 1, x3, I => if x2 < x3 then (some I) else (grd (bnd x3 256) (lt (xu I 69 x3.toNatClampNeg (0 : Int32)) fun J3 => L_Sets_countOrders_12 x2 f (x3 + (1 : Int32)) J3))
theorem s_L_Sets_countOrders_12 {G : xG} {X : xC} {d : Nat} (hd : 2 ≤ d) (hX : xAmb G X m_Sets_countOrders d 0 0)  (C : HC) (x2 : Int32) : ∀ (f : Nat) (x3 : Int32) (I : HI) (r : HI), (kW G X m_Sets_countOrders C r 0 0 30 [.ref 63, .ref 1, .int x2, .null, .null, .null] []) → L_Sets_countOrders_12 x2 f x3 I = some r → kW G X m_Sets_countOrders C I 0 0 12 [.ref 63, .ref 1, .int x2, .int x3, .null, .null] [] := by
  intro f
  induction f with
  | zero => intro x3 I r hk h; rw [L_Sets_countOrders_12] at h; cases h
  | succ f ih =>
    intro x3 I r hk
    rw [L_Sets_countOrders_12]
    refine kx_go 3 (pc' := if x2 < x3 then 30 else 17) (lv' := [.ref 63, .ref 1, .int x2, .int x3, .null, .null]) (st' := []) hX ok_Sets_countOrders rfl ?_
    refine kx_ite (fun c1 => ?_) (fun c1 => ?_)
    · refine kx_weak (lv' := [.ref 63, .ref 1, .int x2, .null, .null, .null]) (by simp [xsub]) ?_
      intro h; have h := Option.some.inj h; subst h
      exact hk
    · refine kx_go 1 (pc' := 18) (lv' := [.ref 63, .ref 1, .int x2, .int x3, .null, .null]) (st' := [.ref 63]) hX ok_Sets_countOrders rfl ?_
      refine kx_getp hX ok_Sets_countOrders rfl (q := 69) (nx := 21) rfl ?_
      refine kx_go 2 (pc' := 23) (lv' := [.ref 63, .ref 1, .int x2, .int x3, .null, .null]) (st' := [.int (0 : Int32), .int x3, .ref 69]) hX ok_Sets_countOrders rfl ?_
      refine kx_iast hX ok_Sets_countOrders (w := 256) (nx := 24) rfl (fun b2 => ?_)
      refine kx_lt (Q := fun J3 => kW G X m_Sets_countOrders C J3 0 0 24 [.ref 63, .ref 1, .int x2, .int x3, .null, .null] []) (fun J3 eJ3 => ?_)
      refine kx_go 2 (pc' := 12) (lv' := [.ref 63, .ref 1, .int x2, .int (x3 + (1 : Int32)), .null, .null]) (st' := []) hX ok_Sets_countOrders rfl ?_
      exact fun h => ih (x3 + (1 : Int32)) J3 r hk h
def L_Sets_countOrders_67 (x2 : Int32) (x3 : Int32) (x4 : Int32) : Nat → Int32 → HI → Option (HI)
  | 0, _, _ => none
  | f + 1, x5, I => if (I 1 1) ≤ x5 then (some I) else (if (M_Sets_has x4 x5) = (0 : Int32) then (L_Sets_countOrders_67 x2 x3 x4 f (x5 + (1 : Int32)) I) else (grd (bnd (x3 ||| ((1 : Int32) <<< (x5 &&& (31 : Int32)))) 256) (grd (bnd x3 256) (lt (xu I 69 (x3 ||| ((1 : Int32) <<< (x5 &&& (31 : Int32)))).toNatClampNeg ((I 69 (x3 ||| ((1 : Int32) <<< (x5 &&& (31 : Int32)))).toNatClampNeg) + (I 69 x3.toNatClampNeg))) fun J5 => L_Sets_countOrders_67 x2 x3 x4 f (x5 + (1 : Int32)) J5))))
theorem s_L_Sets_countOrders_67 {G : xG} {X : xC} {d : Nat} (hd : 2 ≤ d) (hX : xAmb G X m_Sets_countOrders d 0 0)  (C : HC) (x2 : Int32) (x3 : Int32) (x4 : Int32) : ∀ (f : Nat) (x5 : Int32) (I : HI) (r : HI), (kW G X m_Sets_countOrders C r 0 0 112 [.ref 63, .ref 1, .int x2, .int x3, .null, .null] []) → L_Sets_countOrders_67 x2 x3 x4 f x5 I = some r → kW G X m_Sets_countOrders C I 0 0 67 [.ref 63, .ref 1, .int x2, .int x3, .int x4, .int x5] [] := by
  intro f
  induction f with
  | zero => intro x5 I r hk h; rw [L_Sets_countOrders_67] at h; cases h
  | succ f ih =>
    intro x5 I r hk
    rw [L_Sets_countOrders_67]
    refine kx_go 2 (pc' := 70) (lv' := [.ref 63, .ref 1, .int x2, .int x3, .int x4, .int x5]) (st' := [.ref 1, .int x5]) hX ok_Sets_countOrders rfl ?_
    refine kx_geti hX ok_Sets_countOrders rfl (k := 1) (nx := 73) rfl ?_
    refine kx_go 1 (pc' := if (I 1 1) ≤ x5 then 112 else 76) (lv' := [.ref 63, .ref 1, .int x2, .int x3, .int x4, .int x5]) (st' := []) hX ok_Sets_countOrders rfl ?_
    refine kx_ite (fun c1 => ?_) (fun c1 => ?_)
    · refine kx_weak (lv' := [.ref 63, .ref 1, .int x2, .int x3, .null, .null]) (by simp [xsub]) ?_
      intro h; have h := Option.some.inj h; subst h
      exact hk
    · refine kx_go 2 (pc' := 80) (lv' := [.ref 63, .ref 1, .int x2, .int x3, .int x4, .int x5]) (st' := [.int x5, .int x4]) hX ok_Sets_countOrders rfl ?_
      refine kx_S (as := [.int x4, .int x5]) hX ok_Sets_countOrders (nx := 83) rfl l_Sets_52 (fun _ => s_Sets_has (G := G) (d := 0) (Nat.le_refl _) C I x4 x5 _ rfl) (by omega) rfl (rest := []) rfl (Nat.le_of_ble_eq_true rfl) ⟨Nat.le_of_ble_eq_true rfl, Nat.le_of_ble_eq_true rfl⟩ ?_
      show _ → kW G X m_Sets_countOrders C I 0 0 83 [.ref 63, .ref 1, .int x2, .int x3, .int x4, .int x5] [.int (M_Sets_has x4 x5)]
      refine kx_go 1 (pc' := if (M_Sets_has x4 x5) = (0 : Int32) then 106 else 86) (lv' := [.ref 63, .ref 1, .int x2, .int x3, .int x4, .int x5]) (st' := []) hX ok_Sets_countOrders rfl ?_
      refine kx_ite (fun c2 => ?_) (fun c2 => ?_)
      · refine kx_go 2 (pc' := 67) (lv' := [.ref 63, .ref 1, .int x2, .int x3, .int x4, .int (x5 + (1 : Int32))]) (st' := []) hX ok_Sets_countOrders rfl ?_
        exact fun h => ih (x5 + (1 : Int32)) I r hk h
      · refine kx_go 1 (pc' := 87) (lv' := [.ref 63, .ref 1, .int x2, .int x3, .int x4, .int x5]) (st' := [.ref 63]) hX ok_Sets_countOrders rfl ?_
        refine kx_getp hX ok_Sets_countOrders rfl (q := 69) (nx := 90) rfl ?_
        refine kx_go 6 (pc' := 97) (lv' := [.ref 63, .ref 1, .int x2, .int x3, .int x4, .int x5]) (st' := [.int (x3 ||| ((1 : Int32) <<< (x5 &&& (31 : Int32)))), .ref 69, .int (x3 ||| ((1 : Int32) <<< (x5 &&& (31 : Int32)))), .ref 69]) hX ok_Sets_countOrders rfl ?_
        refine kx_iald hX ok_Sets_countOrders (w := 256) (nx := 98) rfl (fun b3 => ?_)
        refine kx_go 1 (pc' := 99) (lv' := [.ref 63, .ref 1, .int x2, .int x3, .int x4, .int x5]) (st' := [.ref 63, .int (I 69 (x3 ||| ((1 : Int32) <<< (x5 &&& (31 : Int32)))).toNatClampNeg), .int (x3 ||| ((1 : Int32) <<< (x5 &&& (31 : Int32)))), .ref 69]) hX ok_Sets_countOrders rfl ?_
        refine kx_getp hX ok_Sets_countOrders rfl (q := 69) (nx := 102) rfl ?_
        refine kx_go 1 (pc' := 103) (lv' := [.ref 63, .ref 1, .int x2, .int x3, .int x4, .int x5]) (st' := [.int x3, .ref 69, .int (I 69 (x3 ||| ((1 : Int32) <<< (x5 &&& (31 : Int32)))).toNatClampNeg), .int (x3 ||| ((1 : Int32) <<< (x5 &&& (31 : Int32)))), .ref 69]) hX ok_Sets_countOrders rfl ?_
        refine kx_iald hX ok_Sets_countOrders (w := 256) (nx := 104) rfl (fun b4 => ?_)
        refine kx_go 1 (pc' := 105) (lv' := [.ref 63, .ref 1, .int x2, .int x3, .int x4, .int x5]) (st' := [.int ((I 69 (x3 ||| ((1 : Int32) <<< (x5 &&& (31 : Int32)))).toNatClampNeg) + (I 69 x3.toNatClampNeg)), .int (x3 ||| ((1 : Int32) <<< (x5 &&& (31 : Int32)))), .ref 69]) hX ok_Sets_countOrders rfl ?_
        refine kx_iastc hX ok_Sets_countOrders (w := 256) (nx := 106) rfl b3 (k := (x3 ||| ((1 : Int32) <<< (x5 &&& (31 : Int32)))).toNatClampNeg) rfl ?_
        refine kx_lt (Q := fun J5 => kW G X m_Sets_countOrders C J5 0 0 106 [.ref 63, .ref 1, .int x2, .int x3, .int x4, .int x5] []) (fun J5 eJ5 => ?_)
        refine kx_go 2 (pc' := 67) (lv' := [.ref 63, .ref 1, .int x2, .int x3, .int x4, .int (x5 + (1 : Int32))]) (st' := []) hX ok_Sets_countOrders rfl ?_
        exact fun h => ih (x5 + (1 : Int32)) J5 r hk h
def L_Sets_countOrders_39 (x2 : Int32) : Nat → Int32 → HI → Option (HI)
  | 0, _, _ => none
  | f + 1, x3, I => if x2 ≤ x3 then (some I) else (grd (bnd x3 256) (if (I 69 x3.toNatClampNeg) = (0 : Int32) then (L_Sets_countOrders_39 x2 f (x3 + (1 : Int32)) I) else (Option.bind (M_Sets_readyAfter I x3 (I 1 1)) fun p4 => Option.bind (L_Sets_countOrders_67 x2 x3 p4 1000 (0 : Int32) I) fun p5 => L_Sets_countOrders_39 x2 f (x3 + (1 : Int32)) p5)))
theorem s_L_Sets_countOrders_39 {G : xG} {X : xC} {d : Nat} (hd : 2 ≤ d) (hX : xAmb G X m_Sets_countOrders d 0 0)  (C : HC) (x2 : Int32) : ∀ (f : Nat) (x3 : Int32) (I : HI) (r : HI), (kW G X m_Sets_countOrders C r 0 0 118 [.ref 63, .null, .int x2, .null, .null, .null] []) → L_Sets_countOrders_39 x2 f x3 I = some r → kW G X m_Sets_countOrders C I 0 0 39 [.ref 63, .ref 1, .int x2, .int x3, .null, .null] [] := by
  intro f
  induction f with
  | zero => intro x3 I r hk h; rw [L_Sets_countOrders_39] at h; cases h
  | succ f ih =>
    intro x3 I r hk
    rw [L_Sets_countOrders_39]
    refine kx_go 3 (pc' := if x2 ≤ x3 then 118 else 44) (lv' := [.ref 63, .ref 1, .int x2, .int x3, .null, .null]) (st' := []) hX ok_Sets_countOrders rfl ?_
    refine kx_ite (fun c1 => ?_) (fun c1 => ?_)
    · refine kx_weak (lv' := [.ref 63, .null, .int x2, .null, .null, .null]) (by simp [xsub]) ?_
      intro h; have h := Option.some.inj h; subst h
      exact hk
    · refine kx_go 1 (pc' := 45) (lv' := [.ref 63, .ref 1, .int x2, .int x3, .null, .null]) (st' := [.ref 63]) hX ok_Sets_countOrders rfl ?_
      refine kx_getp hX ok_Sets_countOrders rfl (q := 69) (nx := 48) rfl ?_
      refine kx_go 1 (pc' := 49) (lv' := [.ref 63, .ref 1, .int x2, .int x3, .null, .null]) (st' := [.int x3, .ref 69]) hX ok_Sets_countOrders rfl ?_
      refine kx_iald hX ok_Sets_countOrders (w := 256) (nx := 50) rfl (fun b2 => ?_)
      refine kx_go 1 (pc' := if (I 69 x3.toNatClampNeg) = (0 : Int32) then 112 else 53) (lv' := [.ref 63, .ref 1, .int x2, .int x3, .null, .null]) (st' := []) hX ok_Sets_countOrders rfl ?_
      refine kx_ite (fun c3 => ?_) (fun c3 => ?_)
      · refine kx_go 2 (pc' := 39) (lv' := [.ref 63, .ref 1, .int x2, .int (x3 + (1 : Int32)), .null, .null]) (st' := []) hX ok_Sets_countOrders rfl ?_
        exact fun h => ih (x3 + (1 : Int32)) I r hk h
      · refine kx_go 3 (pc' := 56) (lv' := [.ref 63, .ref 1, .int x2, .int x3, .null, .null]) (st' := [.ref 1, .int x3, .ref 63]) hX ok_Sets_countOrders rfl ?_
        refine kx_geti hX ok_Sets_countOrders rfl (k := 1) (nx := 59) rfl ?_
        refine kx_bind (fun p4 hp4 => ?_)
        refine kx_V (r := 63) (as := [.int x3, .int (I 1 1)]) (by decide) hX ok_Sets_countOrders (nx := 62) rfl l_Sets_64 (by decide) rfl (fun _ => s_Sets_readyAfter (G := G) (d := 1) (Nat.le_refl _) C I x3 (I 1 1) p4 hp4) (by omega) rfl (rest := []) rfl (Nat.le_of_ble_eq_true rfl) ⟨Nat.le_of_ble_eq_true rfl, Nat.le_of_ble_eq_true rfl⟩ ?_
        show _ → kW G X m_Sets_countOrders C I 0 0 62 [.ref 63, .ref 1, .int x2, .int x3, .null, .null] [.int p4]
        refine kx_go 3 (pc' := 67) (lv' := [.ref 63, .ref 1, .int x2, .int x3, .int p4, .int (0 : Int32)]) (st' := []) hX ok_Sets_countOrders rfl ?_
        refine kx_bind (fun p5 hp5 => ?_)
        refine kx_via (fun hk => s_L_Sets_countOrders_67 (G := G) (X := X) (by omega) hX C x2 x3 p4 1000 (0 : Int32) I p5 hk hp5) ?_
        refine kx_go 2 (pc' := 39) (lv' := [.ref 63, .ref 1, .int x2, .int (x3 + (1 : Int32)), .null, .null]) (st' := []) hX ok_Sets_countOrders rfl ?_
        exact fun h => ih (x3 + (1 : Int32)) p5 r hk h
def M_Sets_countOrders (I : HI) : Option (Int32 × HI) := Option.bind (M_Sets_findBelow I) fun p1 => Option.bind (L_Sets_countOrders_12 (M_Sets_allOf p1) 1000 (1 : Int32) p1) fun p2 => lt (xu p2 69 0 (1 : Int32)) fun J3 => Option.bind (L_Sets_countOrders_39 (M_Sets_allOf p1) 1000 (0 : Int32) J3) fun p4 => grd (bnd (M_Sets_allOf p1) 256) (some ((p4 69 (M_Sets_allOf p1).toNatClampNeg), p4))
theorem s_Sets_countOrders {G : xG} {d : Nat} (hd : 2 ≤ d) (C : HC) (I : HI)   (r : Int32 × HI) : M_Sets_countOrders I = some r → kM G d m_Sets_countOrders [.ref 63, .ref 1] C I 0 0 (some (.int r.1)) C r.2 := by
  unfold M_Sets_countOrders
  refine kM.of (by decide +kernel) (Nat.le_of_ble_eq_true rfl) (lv := [.ref 63, .ref 1, .null, .null, .null, .null]) rfl (fun X hX hE => ?_)
  refine kx_go 2 (pc' := 2) (lv' := [.ref 63, .ref 1, .null, .null, .null, .null]) (st' := [.ref 1, .ref 63]) hX ok_Sets_countOrders rfl ?_
  refine kx_bind (fun p1 hp1 => ?_)
  refine kx_V (r := 63) (as := [.ref 1]) (by decide) hX ok_Sets_countOrders (nx := 5) rfl l_Sets_56 (by decide) rfl (fun _ => s_Sets_findBelow (G := G) (d := 0) (Nat.le_refl _) C I  p1 hp1) (by omega) rfl (rest := []) rfl (Nat.le_of_ble_eq_true rfl) ⟨Nat.le_of_ble_eq_true rfl, Nat.le_of_ble_eq_true rfl⟩ ?_
  show _ → kW G X m_Sets_countOrders C p1 0 0 5 [.ref 63, .ref 1, .null, .null, .null, .null] []
  refine kx_go 1 (pc' := 6) (lv' := [.ref 63, .ref 1, .null, .null, .null, .null]) (st' := [.ref 1]) hX ok_Sets_countOrders rfl ?_
  refine kx_S (as := [.ref 1]) hX ok_Sets_countOrders (nx := 9) rfl l_Sets_60 (fun _ => s_Sets_allOf (G := G) (d := 0) (Nat.le_refl _) C p1  _ rfl) (by omega) rfl (rest := []) rfl (Nat.le_of_ble_eq_true rfl) ⟨Nat.le_of_ble_eq_true rfl, Nat.le_of_ble_eq_true rfl⟩ ?_
  show _ → kW G X m_Sets_countOrders C p1 0 0 9 [.ref 63, .ref 1, .null, .null, .null, .null] [.int (M_Sets_allOf p1)]
  refine kx_go 3 (pc' := 12) (lv' := [.ref 63, .ref 1, .int (M_Sets_allOf p1), .int (1 : Int32), .null, .null]) (st' := []) hX ok_Sets_countOrders rfl ?_
  refine kx_bind (fun p2 hp2 => ?_)
  refine kx_via (fun hk => s_L_Sets_countOrders_12 (G := G) (X := X) (by omega) hX C (M_Sets_allOf p1) 1000 (1 : Int32) p1 p2 hk hp2) ?_
  refine kx_go 1 (pc' := 31) (lv' := [.ref 63, .ref 1, .int (M_Sets_allOf p1), .null, .null, .null]) (st' := [.ref 63]) hX ok_Sets_countOrders rfl ?_
  refine kx_getp hX ok_Sets_countOrders rfl (q := 69) (nx := 34) rfl ?_
  refine kx_go 2 (pc' := 36) (lv' := [.ref 63, .ref 1, .int (M_Sets_allOf p1), .null, .null, .null]) (st' := [.int (1 : Int32), .int (0 : Int32), .ref 69]) hX ok_Sets_countOrders rfl ?_
  refine kx_iastc hX ok_Sets_countOrders (w := 256) (nx := 37) rfl rfl (k := 0) rfl ?_
  refine kx_lt (Q := fun J3 => kW G X m_Sets_countOrders C J3 0 0 37 [.ref 63, .ref 1, .int (M_Sets_allOf p1), .null, .null, .null] []) (fun J3 eJ3 => ?_)
  refine kx_go 2 (pc' := 39) (lv' := [.ref 63, .ref 1, .int (M_Sets_allOf p1), .int (0 : Int32), .null, .null]) (st' := []) hX ok_Sets_countOrders rfl ?_
  refine kx_bind (fun p4 hp4 => ?_)
  refine kx_via (fun hk => s_L_Sets_countOrders_39 (G := G) (X := X) (by omega) hX C (M_Sets_allOf p1) 1000 (0 : Int32) J3 p4 hk hp4) ?_
  refine kx_go 1 (pc' := 119) (lv' := [.ref 63, .null, .int (M_Sets_allOf p1), .null, .null, .null]) (st' := [.ref 63]) hX ok_Sets_countOrders rfl ?_
  refine kx_getp hX ok_Sets_countOrders rfl (q := 69) (nx := 122) rfl ?_
  refine kx_go 1 (pc' := 123) (lv' := [.ref 63, .null, .int (M_Sets_allOf p1), .null, .null, .null]) (st' := [.int (M_Sets_allOf p1), .ref 69]) hX ok_Sets_countOrders rfl ?_
  refine kx_iald hX ok_Sets_countOrders (w := 256) (nx := 124) rfl (fun b5 => ?_)
  intro h; have h := Option.some.inj h; subst h
  exact kx_iret hX hE ok_Sets_countOrders (nx := 125) rfl rfl ⟨Nat.le_of_ble_eq_true rfl, Nat.le_of_ble_eq_true rfl⟩
def M_H_orders (I : HI) : Option (Int32 × HI) := Option.bind (M_Sets_countOrders I) fun p1 => some (p1.1, p1.2)
theorem s_H_orders {G : xG} {d : Nat} (hd : 3 ≤ d) (C : HC) (I : HI)   (r : Int32 × HI) : M_H_orders I = some r → kM G d m_H_orders [.ref 0] C I 0 0 (some (.int r.1)) C r.2 := by
  unfold M_H_orders
  refine kM.of (by decide +kernel) (Nat.le_of_ble_eq_true rfl) (lv := [.ref 0]) rfl (fun X hX hE => ?_)
  refine kx_go 1 (pc' := 1) (lv' := [.ref 0]) (st' := [.ref 0]) hX ok_H_orders rfl ?_
  refine kx_getp hX ok_H_orders rfl (q := 63) (nx := 4) rfl ?_
  refine kx_go 1 (pc' := 5) (lv' := [.ref 0]) (st' := [.ref 0, .ref 63]) hX ok_H_orders rfl ?_
  refine kx_getp hX ok_H_orders rfl (q := 1) (nx := 8) rfl ?_
  refine kx_bind (fun p1 hp1 => ?_)
  refine kx_V (r := 63) (as := [.ref 1]) (by decide) hX ok_H_orders (nx := 11) rfl l_H_152 (by decide) rfl (fun _ => s_Sets_countOrders (G := G) (d := 2) (Nat.le_refl _) C I  p1 hp1) (by omega) rfl (rest := []) rfl (Nat.le_of_ble_eq_true rfl) ⟨Nat.le_of_ble_eq_true rfl, Nat.le_of_ble_eq_true rfl⟩ ?_
  show _ → kW G X m_H_orders C p1.2 0 0 11 [.ref 0] [.int p1.1]
  intro h; have h := Option.some.inj h; subst h
  exact kx_iret hX hE ok_H_orders (nx := 12) rfl rfl ⟨Nat.le_of_ble_eq_true rfl, Nat.le_of_ble_eq_true rfl⟩
def L_Sets_surely_24 (x2 : Int32) (x3 : Int32) (x4 : Int32) (x5 : Int32) : Nat → Int32 → HI → Option (HI)
  | 0, _, _ => none
  | f + 1, x6, I => if x4 ≤ x6 then (some I) else (grd (bnd x6 8) (if (M_Sets_has (I 65 x6.toNatClampNeg) x5) = (0 : Int32) then (L_Sets_surely_24 x2 x3 x4 x5 f (x6 + (1 : Int32)) I) else (grd (bnd x5 8) (lt (xu I 65 x6.toNatClampNeg ((I 65 x6.toNatClampNeg) ||| (I 65 x5.toNatClampNeg))) fun J5 => L_Sets_surely_24 x2 x3 x4 x5 f (x6 + (1 : Int32)) J5))))
theorem s_L_Sets_surely_24 {G : xG} {X : xC} {d : Nat} (hd : 1 ≤ d) (hX : xAmb G X m_Sets_surely d 0 0)  (C : HC) (x2 : Int32) (x3 : Int32) (x4 : Int32) (x5 : Int32) : ∀ (f : Nat) (x6 : Int32) (I : HI) (r : HI), (kW G X m_Sets_surely C r 0 0 69 [.ref 63, .null, .int x2, .int x3, .int x4, .int x5, .null] []) → L_Sets_surely_24 x2 x3 x4 x5 f x6 I = some r → kW G X m_Sets_surely C I 0 0 24 [.ref 63, .null, .int x2, .int x3, .int x4, .int x5, .int x6] [] := by
  intro f
  induction f with
  | zero => intro x6 I r hk h; rw [L_Sets_surely_24] at h; cases h
  | succ f ih =>
    intro x6 I r hk
    rw [L_Sets_surely_24]
    refine kx_go 3 (pc' := if x4 ≤ x6 then 69 else 31) (lv' := [.ref 63, .null, .int x2, .int x3, .int x4, .int x5, .int x6]) (st' := []) hX ok_Sets_surely rfl ?_
    refine kx_ite (fun c1 => ?_) (fun c1 => ?_)
    · refine kx_weak (lv' := [.ref 63, .null, .int x2, .int x3, .int x4, .int x5, .null]) (by simp [xsub]) ?_
      intro h; have h := Option.some.inj h; subst h
      exact hk
    · refine kx_go 1 (pc' := 32) (lv' := [.ref 63, .null, .int x2, .int x3, .int x4, .int x5, .int x6]) (st' := [.ref 63]) hX ok_Sets_surely rfl ?_
      refine kx_getp hX ok_Sets_surely rfl (q := 65) (nx := 35) rfl ?_
      refine kx_go 1 (pc' := 37) (lv' := [.ref 63, .null, .int x2, .int x3, .int x4, .int x5, .int x6]) (st' := [.int x6, .ref 65]) hX ok_Sets_surely rfl ?_
      refine kx_iald hX ok_Sets_surely (w := 8) (nx := 38) rfl (fun b2 => ?_)
      refine kx_go 1 (pc' := 40) (lv' := [.ref 63, .null, .int x2, .int x3, .int x4, .int x5, .int x6]) (st' := [.int x5, .int (I 65 x6.toNatClampNeg)]) hX ok_Sets_surely rfl ?_
      refine kx_S (as := [.int (I 65 x6.toNatClampNeg), .int x5]) hX ok_Sets_surely (nx := 43) rfl l_Sets_52 (fun _ => s_Sets_has (G := G) (d := 0) (Nat.le_refl _) C I (I 65 x6.toNatClampNeg) x5 _ rfl) (by omega) rfl (rest := []) rfl (Nat.le_of_ble_eq_true rfl) ⟨Nat.le_of_ble_eq_true rfl, Nat.le_of_ble_eq_true rfl⟩ ?_
      show _ → kW G X m_Sets_surely C I 0 0 43 [.ref 63, .null, .int x2, .int x3, .int x4, .int x5, .int x6] [.int (M_Sets_has (I 65 x6.toNatClampNeg) x5)]
      refine kx_go 1 (pc' := if (M_Sets_has (I 65 x6.toNatClampNeg) x5) = (0 : Int32) then 63 else 46) (lv' := [.ref 63, .null, .int x2, .int x3, .int x4, .int x5, .int x6]) (st' := []) hX ok_Sets_surely rfl ?_
      refine kx_ite (fun c3 => ?_) (fun c3 => ?_)
      · refine kx_go 2 (pc' := 24) (lv' := [.ref 63, .null, .int x2, .int x3, .int x4, .int x5, .int (x6 + (1 : Int32))]) (st' := []) hX ok_Sets_surely rfl ?_
        exact fun h => ih (x6 + (1 : Int32)) I r hk h
      · refine kx_go 1 (pc' := 47) (lv' := [.ref 63, .null, .int x2, .int x3, .int x4, .int x5, .int x6]) (st' := [.ref 63]) hX ok_Sets_surely rfl ?_
        refine kx_getp hX ok_Sets_surely rfl (q := 65) (nx := 50) rfl ?_
        refine kx_go 2 (pc' := 53) (lv' := [.ref 63, .null, .int x2, .int x3, .int x4, .int x5, .int x6]) (st' := [.int x6, .ref 65, .int x6, .ref 65]) hX ok_Sets_surely rfl ?_
        refine kx_ialdc hX ok_Sets_surely (w := 8) (nx := 54) rfl b2 (k := x6.toNatClampNeg) rfl ?_
        refine kx_go 1 (pc' := 55) (lv' := [.ref 63, .null, .int x2, .int x3, .int x4, .int x5, .int x6]) (st' := [.ref 63, .int (I 65 x6.toNatClampNeg), .int x6, .ref 65]) hX ok_Sets_surely rfl ?_
        refine kx_getp hX ok_Sets_surely rfl (q := 65) (nx := 58) rfl ?_
        refine kx_go 1 (pc' := 60) (lv' := [.ref 63, .null, .int x2, .int x3, .int x4, .int x5, .int x6]) (st' := [.int x5, .ref 65, .int (I 65 x6.toNatClampNeg), .int x6, .ref 65]) hX ok_Sets_surely rfl ?_
        refine kx_iald hX ok_Sets_surely (w := 8) (nx := 61) rfl (fun b4 => ?_)
        refine kx_go 1 (pc' := 62) (lv' := [.ref 63, .null, .int x2, .int x3, .int x4, .int x5, .int x6]) (st' := [.int ((I 65 x6.toNatClampNeg) ||| (I 65 x5.toNatClampNeg)), .int x6, .ref 65]) hX ok_Sets_surely rfl ?_
        refine kx_iastc hX ok_Sets_surely (w := 8) (nx := 63) rfl b2 (k := x6.toNatClampNeg) rfl ?_
        refine kx_lt (Q := fun J5 => kW G X m_Sets_surely C J5 0 0 63 [.ref 63, .null, .int x2, .int x3, .int x4, .int x5, .int x6] []) (fun J5 eJ5 => ?_)
        refine kx_go 2 (pc' := 24) (lv' := [.ref 63, .null, .int x2, .int x3, .int x4, .int x5, .int (x6 + (1 : Int32))]) (st' := []) hX ok_Sets_surely rfl ?_
        exact fun h => ih (x6 + (1 : Int32)) J5 r hk h
def L_Sets_surely_14 (x2 : Int32) (x3 : Int32) (x4 : Int32) : Nat → Int32 → HI → Option (HI)
  | 0, _, _ => none
  | f + 1, x5, I => if x4 ≤ x5 then (some I) else (Option.bind (L_Sets_surely_24 x2 x3 x4 x5 1000 (0 : Int32) I) fun p2 => L_Sets_surely_14 x2 x3 x4 f (x5 + (1 : Int32)) p2)
theorem s_L_Sets_surely_14 {G : xG} {X : xC} {d : Nat} (hd : 1 ≤ d) (hX : xAmb G X m_Sets_surely d 0 0)  (C : HC) (x2 : Int32) (x3 : Int32) (x4 : Int32) : ∀ (f : Nat) (x5 : Int32) (I : HI) (r : HI), (kW G X m_Sets_surely C r 0 0 75 [.ref 63, .null, .int x2, .int x3, .int x4, .null, .null] []) → L_Sets_surely_14 x2 x3 x4 f x5 I = some r → kW G X m_Sets_surely C I 0 0 14 [.ref 63, .null, .int x2, .int x3, .int x4, .int x5, .null] [] := by
  intro f
  induction f with
  | zero => intro x5 I r hk h; rw [L_Sets_surely_14] at h; cases h
  | succ f ih =>
    intro x5 I r hk
    rw [L_Sets_surely_14]
    refine kx_go 3 (pc' := if x4 ≤ x5 then 75 else 21) (lv' := [.ref 63, .null, .int x2, .int x3, .int x4, .int x5, .null]) (st' := []) hX ok_Sets_surely rfl ?_
    refine kx_ite (fun c1 => ?_) (fun c1 => ?_)
    · refine kx_weak (lv' := [.ref 63, .null, .int x2, .int x3, .int x4, .null, .null]) (by simp [xsub]) ?_
      intro h; have h := Option.some.inj h; subst h
      exact hk
    · refine kx_go 2 (pc' := 24) (lv' := [.ref 63, .null, .int x2, .int x3, .int x4, .int x5, .int (0 : Int32)]) (st' := []) hX ok_Sets_surely rfl ?_
      refine kx_bind (fun p2 hp2 => ?_)
      refine kx_via (fun hk => s_L_Sets_surely_24 (G := G) (X := X) (by omega) hX C x2 x3 x4 x5 1000 (0 : Int32) I p2 hk hp2) ?_
      refine kx_go 2 (pc' := 14) (lv' := [.ref 63, .null, .int x2, .int x3, .int x4, .int (x5 + (1 : Int32)), .null]) (st' := []) hX ok_Sets_surely rfl ?_
      exact fun h => ih (x5 + (1 : Int32)) p2 r hk h
def L_Sets_surely_78 (x2 : Int32) (x3 : Int32) (x4 : Int32) (I : HI) : Nat → Int32 → Option (Nat)
  | 0, _ => none
  | f + 1, x5 => if x4 ≤ x5 then (some 1) else (grd (bnd x5 8) (if (M_Sets_has (I 65 x5.toNatClampNeg) x5) = (0 : Int32) then (L_Sets_surely_78 x2 x3 x4 I f (x5 + (1 : Int32))) else (some 0)))
theorem s_L_Sets_surely_78 {G : xG} {X : xC} {d : Nat} (hd : 1 ≤ d) (hX : xAmb G X m_Sets_surely d 0 0)  (C : HC) (x2 : Int32) (x3 : Int32) (x4 : Int32) (I : HI) : ∀ (f : Nat) (x5 : Int32) (r : Nat), (r = 0 → kW G X m_Sets_surely C I 0 0 100 [.null, .null, .null, .null, .null, .null, .null] []) → (¬ r = 0 → kW G X m_Sets_surely C I 0 0 108 [.ref 63, .null, .int x2, .int x3, .null, .null, .null] []) → L_Sets_surely_78 x2 x3 x4 I f x5 = some r → kW G X m_Sets_surely C I 0 0 78 [.ref 63, .null, .int x2, .int x3, .int x4, .int x5, .null] [] := by
  intro f
  induction f with
  | zero => intro x5 r hk0 hk1 h; rw [L_Sets_surely_78] at h; cases h
  | succ f ih =>
    intro x5 r hk0 hk1
    rw [L_Sets_surely_78]
    refine kx_go 3 (pc' := if x4 ≤ x5 then 108 else 85) (lv' := [.ref 63, .null, .int x2, .int x3, .int x4, .int x5, .null]) (st' := []) hX ok_Sets_surely rfl ?_
    refine kx_ite (fun c1 => ?_) (fun c1 => ?_)
    · refine kx_weak (lv' := [.ref 63, .null, .int x2, .int x3, .null, .null, .null]) (by simp [xsub]) ?_
      intro h; have h := Option.some.inj h; subst h
      exact hk1 (show ¬ (1 : Nat) = 0 by decide)
    · refine kx_go 1 (pc' := 86) (lv' := [.ref 63, .null, .int x2, .int x3, .int x4, .int x5, .null]) (st' := [.ref 63]) hX ok_Sets_surely rfl ?_
      refine kx_getp hX ok_Sets_surely rfl (q := 65) (nx := 89) rfl ?_
      refine kx_go 1 (pc' := 91) (lv' := [.ref 63, .null, .int x2, .int x3, .int x4, .int x5, .null]) (st' := [.int x5, .ref 65]) hX ok_Sets_surely rfl ?_
      refine kx_iald hX ok_Sets_surely (w := 8) (nx := 92) rfl (fun b2 => ?_)
      refine kx_go 1 (pc' := 94) (lv' := [.ref 63, .null, .int x2, .int x3, .int x4, .int x5, .null]) (st' := [.int x5, .int (I 65 x5.toNatClampNeg)]) hX ok_Sets_surely rfl ?_
      refine kx_S (as := [.int (I 65 x5.toNatClampNeg), .int x5]) hX ok_Sets_surely (nx := 97) rfl l_Sets_52 (fun _ => s_Sets_has (G := G) (d := 0) (Nat.le_refl _) C I (I 65 x5.toNatClampNeg) x5 _ rfl) (by omega) rfl (rest := []) rfl (Nat.le_of_ble_eq_true rfl) ⟨Nat.le_of_ble_eq_true rfl, Nat.le_of_ble_eq_true rfl⟩ ?_
      show _ → kW G X m_Sets_surely C I 0 0 97 [.ref 63, .null, .int x2, .int x3, .int x4, .int x5, .null] [.int (M_Sets_has (I 65 x5.toNatClampNeg) x5)]
      refine kx_go 1 (pc' := if (M_Sets_has (I 65 x5.toNatClampNeg) x5) = (0 : Int32) then 102 else 100) (lv' := [.ref 63, .null, .int x2, .int x3, .int x4, .int x5, .null]) (st' := []) hX ok_Sets_surely rfl ?_
      refine kx_ite (fun c3 => ?_) (fun c3 => ?_)
      · refine kx_go 2 (pc' := 78) (lv' := [.ref 63, .null, .int x2, .int x3, .int x4, .int (x5 + (1 : Int32)), .null]) (st' := []) hX ok_Sets_surely rfl ?_
        exact fun h => ih (x5 + (1 : Int32)) r hk0 hk1 h
      · refine kx_weak (lv' := [.null, .null, .null, .null, .null, .null, .null]) (by simp [xsub]) ?_
        intro h; have h := Option.some.inj h; subst h
        exact hk0 rfl
def M_Sets_surely (I : HI) (x2 : Int32) (x3 : Int32) : Option (Int32 × HI) := Option.bind (M_Sets_findBelow I) fun p1 => Option.bind (L_Sets_surely_14 x2 x3 (p1 1 1) 1000 (0 : Int32) p1) fun p2 => Option.bind (L_Sets_surely_78 x2 x3 (p1 1 1) p2 1000 (0 : Int32)) fun p3 => if p3 = 0 then (some ((0 : Int32), p2)) else (grd (bnd x2 8) (if (M_Sets_has (p2 65 x2.toNatClampNeg) x3) = (0 : Int32) then (grd (bnd x3 8) (if (M_Sets_has (p2 65 x3.toNatClampNeg) x2) = (0 : Int32) then (some ((0 : Int32), p2)) else (some ((-1 : Int32), p2)))) else (some ((1 : Int32), p2))))
theorem s_Sets_surely {G : xG} {d : Nat} (hd : 1 ≤ d) (C : HC) (I : HI) (x2 : Int32) (x3 : Int32)  (r : Int32 × HI) : M_Sets_surely I x2 x3 = some r → kM G d m_Sets_surely [.ref 63, .ref 1, .int x2, .int x3] C I 0 0 (some (.int r.1)) C r.2 := by
  unfold M_Sets_surely
  refine kM.of (by decide +kernel) (Nat.le_of_ble_eq_true rfl) (lv := [.ref 63, .ref 1, .int x2, .int x3, .null, .null, .null]) rfl (fun X hX hE => ?_)
  refine kx_go 2 (pc' := 2) (lv' := [.ref 63, .ref 1, .int x2, .int x3, .null, .null, .null]) (st' := [.ref 1, .ref 63]) hX ok_Sets_surely rfl ?_
  refine kx_bind (fun p1 hp1 => ?_)
  refine kx_V (r := 63) (as := [.ref 1]) (by decide) hX ok_Sets_surely (nx := 5) rfl l_Sets_56 (by decide) rfl (fun _ => s_Sets_findBelow (G := G) (d := 0) (Nat.le_refl _) C I  p1 hp1) (by omega) rfl (rest := []) rfl (Nat.le_of_ble_eq_true rfl) ⟨Nat.le_of_ble_eq_true rfl, Nat.le_of_ble_eq_true rfl⟩ ?_
  show _ → kW G X m_Sets_surely C p1 0 0 5 [.ref 63, .ref 1, .int x2, .int x3, .null, .null, .null] []
  refine kx_go 1 (pc' := 6) (lv' := [.ref 63, .ref 1, .int x2, .int x3, .null, .null, .null]) (st' := [.ref 1]) hX ok_Sets_surely rfl ?_
  refine kx_geti hX ok_Sets_surely rfl (k := 1) (nx := 9) rfl ?_
  refine kx_go 3 (pc' := 14) (lv' := [.ref 63, .ref 1, .int x2, .int x3, .int (p1 1 1), .int (0 : Int32), .null]) (st' := []) hX ok_Sets_surely rfl ?_
  refine kx_weak (lv' := [.ref 63, .null, .int x2, .int x3, .int (p1 1 1), .int (0 : Int32), .null]) (by simp [xsub]) ?_
  refine kx_bind (fun p2 hp2 => ?_)
  refine kx_via (fun hk => s_L_Sets_surely_14 (G := G) (X := X) (by omega) hX C x2 x3 (p1 1 1) 1000 (0 : Int32) p1 p2 hk hp2) ?_
  refine kx_go 2 (pc' := 78) (lv' := [.ref 63, .null, .int x2, .int x3, .int (p1 1 1), .int (0 : Int32), .null]) (st' := []) hX ok_Sets_surely rfl ?_
  refine kx_bind (fun p3 hp3 => ?_)
  refine kx_via2 (fun hk0 hk1 => s_L_Sets_surely_78 (G := G) (X := X) (by omega) hX C x2 x3 (p1 1 1) p2 1000 (0 : Int32) p3 hk0 hk1 hp3) (fun _ => ?_) (fun _ => ?_)
  · refine kx_go 1 (pc' := 101) (lv' := [.null, .null, .null, .null, .null, .null, .null]) (st' := [.int (0 : Int32)]) hX ok_Sets_surely rfl ?_
    intro h; have h := Option.some.inj h; subst h
    exact kx_iret hX hE ok_Sets_surely (nx := 102) rfl rfl ⟨Nat.le_of_ble_eq_true rfl, Nat.le_of_ble_eq_true rfl⟩
  · refine kx_go 1 (pc' := 109) (lv' := [.ref 63, .null, .int x2, .int x3, .null, .null, .null]) (st' := [.ref 63]) hX ok_Sets_surely rfl ?_
    refine kx_getp hX ok_Sets_surely rfl (q := 65) (nx := 112) rfl ?_
    refine kx_go 1 (pc' := 113) (lv' := [.ref 63, .null, .int x2, .int x3, .null, .null, .null]) (st' := [.int x2, .ref 65]) hX ok_Sets_surely rfl ?_
    refine kx_iald hX ok_Sets_surely (w := 8) (nx := 114) rfl (fun b4 => ?_)
    refine kx_go 1 (pc' := 115) (lv' := [.ref 63, .null, .int x2, .int x3, .null, .null, .null]) (st' := [.int x3, .int (p2 65 x2.toNatClampNeg)]) hX ok_Sets_surely rfl ?_
    refine kx_S (as := [.int (p2 65 x2.toNatClampNeg), .int x3]) hX ok_Sets_surely (nx := 118) rfl l_Sets_52 (fun _ => s_Sets_has (G := G) (d := 0) (Nat.le_refl _) C p2 (p2 65 x2.toNatClampNeg) x3 _ rfl) (by omega) rfl (rest := []) rfl (Nat.le_of_ble_eq_true rfl) ⟨Nat.le_of_ble_eq_true rfl, Nat.le_of_ble_eq_true rfl⟩ ?_
    show _ → kW G X m_Sets_surely C p2 0 0 118 [.ref 63, .null, .int x2, .int x3, .null, .null, .null] [.int (M_Sets_has (p2 65 x2.toNatClampNeg) x3)]
    refine kx_go 1 (pc' := if (M_Sets_has (p2 65 x2.toNatClampNeg) x3) = (0 : Int32) then 123 else 121) (lv' := [.ref 63, .null, .int x2, .int x3, .null, .null, .null]) (st' := []) hX ok_Sets_surely rfl ?_
    refine kx_ite (fun c5 => ?_) (fun c5 => ?_)
    · refine kx_go 1 (pc' := 124) (lv' := [.ref 63, .null, .int x2, .int x3, .null, .null, .null]) (st' := [.ref 63]) hX ok_Sets_surely rfl ?_
      refine kx_getp hX ok_Sets_surely rfl (q := 65) (nx := 127) rfl ?_
      refine kx_go 1 (pc' := 128) (lv' := [.ref 63, .null, .int x2, .int x3, .null, .null, .null]) (st' := [.int x3, .ref 65]) hX ok_Sets_surely rfl ?_
      refine kx_iald hX ok_Sets_surely (w := 8) (nx := 129) rfl (fun b6 => ?_)
      refine kx_go 1 (pc' := 130) (lv' := [.ref 63, .null, .int x2, .int x3, .null, .null, .null]) (st' := [.int x2, .int (p2 65 x3.toNatClampNeg)]) hX ok_Sets_surely rfl ?_
      refine kx_S (as := [.int (p2 65 x3.toNatClampNeg), .int x2]) hX ok_Sets_surely (nx := 133) rfl l_Sets_52 (fun _ => s_Sets_has (G := G) (d := 0) (Nat.le_refl _) C p2 (p2 65 x3.toNatClampNeg) x2 _ rfl) (by omega) rfl (rest := []) rfl (Nat.le_of_ble_eq_true rfl) ⟨Nat.le_of_ble_eq_true rfl, Nat.le_of_ble_eq_true rfl⟩ ?_
      show _ → kW G X m_Sets_surely C p2 0 0 133 [.ref 63, .null, .int x2, .int x3, .null, .null, .null] [.int (M_Sets_has (p2 65 x3.toNatClampNeg) x2)]
      refine kx_go 1 (pc' := if (M_Sets_has (p2 65 x3.toNatClampNeg) x2) = (0 : Int32) then 140 else 136) (lv' := [.ref 63, .null, .int x2, .int x3, .null, .null, .null]) (st' := []) hX ok_Sets_surely rfl ?_
      refine kx_ite (fun c7 => ?_) (fun c7 => ?_)
      · refine kx_go 1 (pc' := 141) (lv' := [.ref 63, .null, .int x2, .int x3, .null, .null, .null]) (st' := [.int (0 : Int32)]) hX ok_Sets_surely rfl ?_
        intro h; have h := Option.some.inj h; subst h
        exact kx_iret hX hE ok_Sets_surely (nx := 142) rfl rfl ⟨Nat.le_of_ble_eq_true rfl, Nat.le_of_ble_eq_true rfl⟩
      · refine kx_go 2 (pc' := 141) (lv' := [.ref 63, .null, .int x2, .int x3, .null, .null, .null]) (st' := [.int (-1 : Int32)]) hX ok_Sets_surely rfl ?_
        intro h; have h := Option.some.inj h; subst h
        exact kx_iret hX hE ok_Sets_surely (nx := 142) rfl rfl ⟨Nat.le_of_ble_eq_true rfl, Nat.le_of_ble_eq_true rfl⟩
    · refine kx_go 1 (pc' := 122) (lv' := [.ref 63, .null, .int x2, .int x3, .null, .null, .null]) (st' := [.int (1 : Int32)]) hX ok_Sets_surely rfl ?_
      intro h; have h := Option.some.inj h; subst h
      exact kx_iret hX hE ok_Sets_surely (nx := 123) rfl rfl ⟨Nat.le_of_ble_eq_true rfl, Nat.le_of_ble_eq_true rfl⟩
def M_H_sure (I : HI) (x1 : Int32) (x2 : Int32) : Option (Int32 × HI) := if (M_Wall_areTwo I x1 x2) = (0 : Int32) then (Option.bind (M_H_error I (1 : Int32)) fun p2 => some (p2.1, p2.2)) else (Option.bind (M_Sets_surely I x1 x2) fun p3 => some (p3.1, p3.2))
theorem s_H_sure {G : xG} {d : Nat} (hd : 2 ≤ d) (C : HC) (I : HI) (x1 : Int32) (x2 : Int32)  (r : Int32 × HI) : M_H_sure I x1 x2 = some r → kM G d m_H_sure [.ref 0, .int x1, .int x2] C I 0 0 (some (.int r.1)) C r.2 := by
  unfold M_H_sure
  refine kM.of (by decide +kernel) (Nat.le_of_ble_eq_true rfl) (lv := [.ref 0, .int x1, .int x2]) rfl (fun X hX hE => ?_)
  refine kx_go 1 (pc' := 1) (lv' := [.ref 0, .int x1, .int x2]) (st' := [.ref 0]) hX ok_H_sure rfl ?_
  refine kx_getp hX ok_H_sure rfl (q := 1) (nx := 4) rfl ?_
  refine kx_go 2 (pc' := 6) (lv' := [.ref 0, .int x1, .int x2]) (st' := [.int x2, .int x1, .ref 1]) hX ok_H_sure rfl ?_
  refine kx_V (r := 1) (as := [.int x1, .int x2]) (by decide) hX ok_H_sure (nx := 9) rfl l_H_156 (by decide) rfl (fun _ => s_Wall_areTwo (G := G) (d := 1) (Nat.le_refl _) C I x1 x2 _ rfl) (by omega) rfl (rest := []) rfl (Nat.le_of_ble_eq_true rfl) ⟨Nat.le_of_ble_eq_true rfl, Nat.le_of_ble_eq_true rfl⟩ ?_
  show _ → kW G X m_H_sure C I 0 0 9 [.ref 0, .int x1, .int x2] [.int (M_Wall_areTwo I x1 x2)]
  refine kx_go 1 (pc' := if (M_Wall_areTwo I x1 x2) = (0 : Int32) then 12 else 18) (lv' := [.ref 0, .int x1, .int x2]) (st' := []) hX ok_H_sure rfl ?_
  refine kx_ite (fun c1 => ?_) (fun c1 => ?_)
  · refine kx_go 2 (pc' := 14) (lv' := [.ref 0, .int x1, .int x2]) (st' := [.int (1 : Int32), .ref 0]) hX ok_H_sure rfl ?_
    refine kx_bind (fun p2 hp2 => ?_)
    refine kx_V (r := 0) (as := [.int (1 : Int32)]) (by decide) hX ok_H_sure (nx := 17) rfl l_H_60 (by decide) rfl (fun _ => s_H_error (G := G) (d := 0) (Nat.le_refl _) C I (1 : Int32) p2 hp2) (by omega) rfl (rest := []) rfl (Nat.le_of_ble_eq_true rfl) ⟨Nat.le_of_ble_eq_true rfl, Nat.le_of_ble_eq_true rfl⟩ ?_
    show _ → kW G X m_H_sure C p2.2 0 0 17 [.ref 0, .int x1, .int x2] [.int p2.1]
    intro h; have h := Option.some.inj h; subst h
    exact kx_iret hX hE ok_H_sure (nx := 18) rfl rfl ⟨Nat.le_of_ble_eq_true rfl, Nat.le_of_ble_eq_true rfl⟩
  · refine kx_go 1 (pc' := 19) (lv' := [.ref 0, .int x1, .int x2]) (st' := [.ref 0]) hX ok_H_sure rfl ?_
    refine kx_getp hX ok_H_sure rfl (q := 63) (nx := 22) rfl ?_
    refine kx_go 1 (pc' := 23) (lv' := [.ref 0, .int x1, .int x2]) (st' := [.ref 0, .ref 63]) hX ok_H_sure rfl ?_
    refine kx_getp hX ok_H_sure rfl (q := 1) (nx := 26) rfl ?_
    refine kx_go 2 (pc' := 28) (lv' := [.ref 0, .int x1, .int x2]) (st' := [.int x2, .int x1, .ref 1, .ref 63]) hX ok_H_sure rfl ?_
    refine kx_bind (fun p3 hp3 => ?_)
    refine kx_V (r := 63) (as := [.ref 1, .int x1, .int x2]) (by decide) hX ok_H_sure (nx := 31) rfl l_H_159 (by decide) rfl (fun _ => s_Sets_surely (G := G) (d := 1) (Nat.le_refl _) C I x1 x2 p3 hp3) (by omega) rfl (rest := []) rfl (Nat.le_of_ble_eq_true rfl) ⟨Nat.le_of_ble_eq_true rfl, Nat.le_of_ble_eq_true rfl⟩ ?_
    show _ → kW G X m_H_sure C p3.2 0 0 31 [.ref 0, .int x1, .int x2] [.int p3.1]
    intro h; have h := Option.some.inj h; subst h
    exact kx_iret hX hE ok_H_sure (nx := 32) rfl rfl ⟨Nat.le_of_ble_eq_true rfl, Nat.le_of_ble_eq_true rfl⟩
def L_Sets_findLosses_7  : Nat → Int32 → HI → Option (HI)
  | 0, _, _ => none
  | f + 1, x2, I => if (64 : Int32) ≤ x2 then (some I) else (grd (bnd x2 64) (lt (xu I 67 x2.toNatClampNeg (0 : Int32)) fun J3 => L_Sets_findLosses_7 f (x2 + (1 : Int32)) J3))
theorem s_L_Sets_findLosses_7 {G : xG} {X : xC} {d : Nat} (hd : 4 ≤ d) (hX : xAmb G X m_Sets_findLosses d 0 0)  (C : HC) : ∀ (f : Nat) (x2 : Int32) (I : HI) (r : HI), (kW G X m_Sets_findLosses C r 0 0 29 [.ref 63, .ref 1, .null] []) → L_Sets_findLosses_7 f x2 I = some r → kW G X m_Sets_findLosses C I 0 0 7 [.ref 63, .ref 1, .int x2] [] := by
  intro f
  induction f with
  | zero => intro x2 I r hk h; rw [L_Sets_findLosses_7] at h; cases h
  | succ f ih =>
    intro x2 I r hk
    rw [L_Sets_findLosses_7]
    refine kx_go 2 (pc' := 9) (lv' := [.ref 63, .ref 1, .int x2]) (st' := [.ref 63, .int x2]) hX ok_Sets_findLosses rfl ?_
    refine kx_getp hX ok_Sets_findLosses rfl (q := 67) (nx := 12) rfl ?_
    refine kx_alen hX ok_Sets_findLosses (w := 64) (nx := 13) rfl (y := (64 : Int32)) rfl ?_
    refine kx_go 1 (pc' := if (64 : Int32) ≤ x2 then 29 else 16) (lv' := [.ref 63, .ref 1, .int x2]) (st' := []) hX ok_Sets_findLosses rfl ?_
    refine kx_ite (fun c1 => ?_) (fun c1 => ?_)
    · refine kx_weak (lv' := [.ref 63, .ref 1, .null]) (by simp [xsub]) ?_
      intro h; have h := Option.some.inj h; subst h
      exact hk
    · refine kx_go 1 (pc' := 17) (lv' := [.ref 63, .ref 1, .int x2]) (st' := [.ref 63]) hX ok_Sets_findLosses rfl ?_
      refine kx_getp hX ok_Sets_findLosses rfl (q := 67) (nx := 20) rfl ?_
      refine kx_go 2 (pc' := 22) (lv' := [.ref 63, .ref 1, .int x2]) (st' := [.int (0 : Int32), .int x2, .ref 67]) hX ok_Sets_findLosses rfl ?_
      refine kx_iast hX ok_Sets_findLosses (w := 64) (nx := 23) rfl (fun b2 => ?_)
      refine kx_lt (Q := fun J3 => kW G X m_Sets_findLosses C J3 0 0 23 [.ref 63, .ref 1, .int x2] []) (fun J3 eJ3 => ?_)
      refine kx_go 2 (pc' := 7) (lv' := [.ref 63, .ref 1, .int (x2 + (1 : Int32))]) (st' := []) hX ok_Sets_findLosses rfl ?_
      exact fun h => ih (x2 + (1 : Int32)) J3 r hk h
def L_Sets_findLosses_31 (C : HC) : Nat → Int32 → HI → Option (HI)
  | 0, _, _ => none
  | f + 1, x2, I => if (I 1 5) ≤ x2 then (some I) else (grd (bnd x2 12) (grd (bnd (((I 11 x2.toNatClampNeg) * (8 : Int32)) + (I 12 x2.toNatClampNeg)) 64) (Option.bind (M_Wall_weightOf C I x2) fun p4 => lt (xu p4.2 67 (((I 11 x2.toNatClampNeg) * (8 : Int32)) + (I 12 x2.toNatClampNeg)).toNatClampNeg ((I 67 (((I 11 x2.toNatClampNeg) * (8 : Int32)) + (I 12 x2.toNatClampNeg)).toNatClampNeg) + p4.1)) fun J5 => L_Sets_findLosses_31 C f (x2 + (1 : Int32)) J5)))
theorem s_L_Sets_findLosses_31 {G : xG} {X : xC} {d : Nat} (hd : 4 ≤ d) (hX : xAmb G X m_Sets_findLosses d 0 0)  (C : HC) : ∀ (f : Nat) (x2 : Int32) (I : HI) (r : HI), (kW G X m_Sets_findLosses C r 0 0 74 [.null, .null, .null] []) → L_Sets_findLosses_31 C f x2 I = some r → kW G X m_Sets_findLosses C I 0 0 31 [.ref 63, .ref 1, .int x2] [] := by
  intro f
  induction f with
  | zero => intro x2 I r hk h; rw [L_Sets_findLosses_31] at h; cases h
  | succ f ih =>
    intro x2 I r hk
    rw [L_Sets_findLosses_31]
    refine kx_go 2 (pc' := 33) (lv' := [.ref 63, .ref 1, .int x2]) (st' := [.ref 1, .int x2]) hX ok_Sets_findLosses rfl ?_
    refine kx_geti hX ok_Sets_findLosses rfl (k := 5) (nx := 36) rfl ?_
    refine kx_go 1 (pc' := if (I 1 5) ≤ x2 then 74 else 39) (lv' := [.ref 63, .ref 1, .int x2]) (st' := []) hX ok_Sets_findLosses rfl ?_
    refine kx_ite (fun c1 => ?_) (fun c1 => ?_)
    · refine kx_weak (lv' := [.null, .null, .null]) (by simp [xsub]) ?_
      intro h; have h := Option.some.inj h; subst h
      exact hk
    · refine kx_go 1 (pc' := 40) (lv' := [.ref 63, .ref 1, .int x2]) (st' := [.ref 63]) hX ok_Sets_findLosses rfl ?_
      refine kx_getp hX ok_Sets_findLosses rfl (q := 67) (nx := 43) rfl ?_
      refine kx_go 1 (pc' := 44) (lv' := [.ref 63, .ref 1, .int x2]) (st' := [.ref 1, .ref 67]) hX ok_Sets_findLosses rfl ?_
      refine kx_getp hX ok_Sets_findLosses rfl (q := 11) (nx := 47) rfl ?_
      refine kx_go 1 (pc' := 48) (lv' := [.ref 63, .ref 1, .int x2]) (st' := [.int x2, .ref 11, .ref 67]) hX ok_Sets_findLosses rfl ?_
      refine kx_iald hX ok_Sets_findLosses (w := 12) (nx := 49) rfl (fun b2 => ?_)
      refine kx_go 3 (pc' := 53) (lv' := [.ref 63, .ref 1, .int x2]) (st' := [.ref 1, .int ((I 11 x2.toNatClampNeg) * (8 : Int32)), .ref 67]) hX ok_Sets_findLosses rfl ?_
      refine kx_getp hX ok_Sets_findLosses rfl (q := 12) (nx := 56) rfl ?_
      refine kx_go 1 (pc' := 57) (lv' := [.ref 63, .ref 1, .int x2]) (st' := [.int x2, .ref 12, .int ((I 11 x2.toNatClampNeg) * (8 : Int32)), .ref 67]) hX ok_Sets_findLosses rfl ?_
      refine kx_ialdc hX ok_Sets_findLosses (w := 12) (nx := 58) rfl b2 (k := x2.toNatClampNeg) rfl ?_
      refine kx_go 2 (pc' := 60) (lv' := [.ref 63, .ref 1, .int x2]) (st' := [.int (((I 11 x2.toNatClampNeg) * (8 : Int32)) + (I 12 x2.toNatClampNeg)), .ref 67, .int (((I 11 x2.toNatClampNeg) * (8 : Int32)) + (I 12 x2.toNatClampNeg)), .ref 67]) hX ok_Sets_findLosses rfl ?_
      refine kx_iald hX ok_Sets_findLosses (w := 64) (nx := 61) rfl (fun b3 => ?_)
      refine kx_go 2 (pc' := 63) (lv' := [.ref 63, .ref 1, .int x2]) (st' := [.int x2, .ref 1, .int (I 67 (((I 11 x2.toNatClampNeg) * (8 : Int32)) + (I 12 x2.toNatClampNeg)).toNatClampNeg), .int (((I 11 x2.toNatClampNeg) * (8 : Int32)) + (I 12 x2.toNatClampNeg)), .ref 67]) hX ok_Sets_findLosses rfl ?_
      refine kx_bind (fun p4 hp4 => ?_)
      refine kx_V (r := 1) (as := [.int x2]) (by decide) hX ok_Sets_findLosses (nx := 66) rfl l_Sets_68 (by decide) rfl (fun _ => s_Wall_weightOf (G := G) (d := 3) (Nat.le_refl _) C I x2 p4 hp4) (by omega) rfl (rest := [.int (I 67 (((I 11 x2.toNatClampNeg) * (8 : Int32)) + (I 12 x2.toNatClampNeg)).toNatClampNeg), .int (((I 11 x2.toNatClampNeg) * (8 : Int32)) + (I 12 x2.toNatClampNeg)), .ref 67]) rfl (Nat.le_of_ble_eq_true rfl) ⟨Nat.le_of_ble_eq_true rfl, Nat.le_of_ble_eq_true rfl⟩ ?_
      show _ → kW G X m_Sets_findLosses C p4.2 0 0 66 [.ref 63, .ref 1, .int x2] [.int p4.1, .int (I 67 (((I 11 x2.toNatClampNeg) * (8 : Int32)) + (I 12 x2.toNatClampNeg)).toNatClampNeg), .int (((I 11 x2.toNatClampNeg) * (8 : Int32)) + (I 12 x2.toNatClampNeg)), .ref 67]
      refine kx_go 1 (pc' := 67) (lv' := [.ref 63, .ref 1, .int x2]) (st' := [.int ((I 67 (((I 11 x2.toNatClampNeg) * (8 : Int32)) + (I 12 x2.toNatClampNeg)).toNatClampNeg) + p4.1), .int (((I 11 x2.toNatClampNeg) * (8 : Int32)) + (I 12 x2.toNatClampNeg)), .ref 67]) hX ok_Sets_findLosses rfl ?_
      refine kx_iastc hX ok_Sets_findLosses (w := 64) (nx := 68) rfl b3 (k := (((I 11 x2.toNatClampNeg) * (8 : Int32)) + (I 12 x2.toNatClampNeg)).toNatClampNeg) rfl ?_
      refine kx_lt (Q := fun J5 => kW G X m_Sets_findLosses C J5 0 0 68 [.ref 63, .ref 1, .int x2] []) (fun J5 eJ5 => ?_)
      refine kx_go 2 (pc' := 31) (lv' := [.ref 63, .ref 1, .int (x2 + (1 : Int32))]) (st' := []) hX ok_Sets_findLosses rfl ?_
      exact fun h => ih (x2 + (1 : Int32)) J5 r hk h
def M_Sets_findLosses (C : HC) (I : HI) : Option (HI) := Option.bind (M_Sets_findBelow I) fun p1 => Option.bind (L_Sets_findLosses_7 1000 (0 : Int32) p1) fun p2 => Option.bind (L_Sets_findLosses_31 C 1000 (0 : Int32) p2) fun p3 => some p3
theorem s_Sets_findLosses {G : xG} {d : Nat} (hd : 4 ≤ d) (C : HC) (I : HI)   (r : HI) : M_Sets_findLosses C I = some r → kM G d m_Sets_findLosses [.ref 63, .ref 1] C I 0 0 none C r := by
  unfold M_Sets_findLosses
  refine kM.of (by decide +kernel) (Nat.le_of_ble_eq_true rfl) (lv := [.ref 63, .ref 1, .null]) rfl (fun X hX hE => ?_)
  refine kx_go 2 (pc' := 2) (lv' := [.ref 63, .ref 1, .null]) (st' := [.ref 1, .ref 63]) hX ok_Sets_findLosses rfl ?_
  refine kx_bind (fun p1 hp1 => ?_)
  refine kx_V (r := 63) (as := [.ref 1]) (by decide) hX ok_Sets_findLosses (nx := 5) rfl l_Sets_56 (by decide) rfl (fun _ => s_Sets_findBelow (G := G) (d := 0) (Nat.le_refl _) C I  p1 hp1) (by omega) rfl (rest := []) rfl (Nat.le_of_ble_eq_true rfl) ⟨Nat.le_of_ble_eq_true rfl, Nat.le_of_ble_eq_true rfl⟩ ?_
  show _ → kW G X m_Sets_findLosses C p1 0 0 5 [.ref 63, .ref 1, .null] []
  refine kx_go 2 (pc' := 7) (lv' := [.ref 63, .ref 1, .int (0 : Int32)]) (st' := []) hX ok_Sets_findLosses rfl ?_
  refine kx_bind (fun p2 hp2 => ?_)
  refine kx_via (fun hk => s_L_Sets_findLosses_7 (G := G) (X := X) (by omega) hX C 1000 (0 : Int32) p1 p2 hk hp2) ?_
  refine kx_go 2 (pc' := 31) (lv' := [.ref 63, .ref 1, .int (0 : Int32)]) (st' := []) hX ok_Sets_findLosses rfl ?_
  refine kx_bind (fun p3 hp3 => ?_)
  refine kx_via (fun hk => s_L_Sets_findLosses_31 (G := G) (X := X) (by omega) hX C 1000 (0 : Int32) p2 p3 hk hp3) ?_
  intro h; have h := Option.some.inj h; subst h
  exact kx_vret hX hE ok_Sets_findLosses (nx := 75) rfl rfl ⟨Nat.le_of_ble_eq_true rfl, Nat.le_of_ble_eq_true rfl⟩
def L_Sets_lossOf_17 (x1 : Int32) (x3 : Int32) (I : HI) : Nat → Int32 → Int32 → Option (Int32)
  | 0, _, _ => none
  | f + 1, x4, x5 => if (8 : Int32) ≤ x5 then (some x4) else (if (x3 >>> (x5 &&& (31 : Int32))) = (0 : Int32) then (some x4) else (if (M_Sets_has x3 x5) = (0 : Int32) then (L_Sets_lossOf_17 x1 x3 I f x4 (x5 + (1 : Int32))) else (grd (bnd ((x1 * (8 : Int32)) + x5) 64) (L_Sets_lossOf_17 x1 x3 I f (x4 + (I 67 ((x1 * (8 : Int32)) + x5).toNatClampNeg)) (x5 + (1 : Int32))))))
theorem s_L_Sets_lossOf_17 {G : xG} {X : xC} {d : Nat} (hd : 1 ≤ d) (hX : xAmb G X m_Sets_lossOf d 0 0)  (C : HC) (x1 : Int32) (x3 : Int32) (I : HI) : ∀ (f : Nat) (x4 : Int32) (x5 : Int32) (r : Int32), (kW G X m_Sets_lossOf C I 0 0 63 [.null, .null, .null, .null, .int r, .null] []) → L_Sets_lossOf_17 x1 x3 I f x4 x5 = some r → kW G X m_Sets_lossOf C I 0 0 17 [.ref 63, .int x1, .null, .int x3, .int x4, .int x5] [] := by
  intro f
  induction f with
  | zero => intro x4 x5 r hk h; rw [L_Sets_lossOf_17] at h; cases h
  | succ f ih =>
    intro x4 x5 r hk
    rw [L_Sets_lossOf_17]
    refine kx_go 3 (pc' := if (8 : Int32) ≤ x5 then 63 else 24) (lv' := [.ref 63, .int x1, .null, .int x3, .int x4, .int x5]) (st' := []) hX ok_Sets_lossOf rfl ?_
    refine kx_ite (fun c1 => ?_) (fun c1 => ?_)
    · refine kx_weak (lv' := [.null, .null, .null, .null, .int x4, .null]) (by simp [xsub]) ?_
      intro h; have h := Option.some.inj h; subst h
      exact hk
    · refine kx_go 4 (pc' := if (x3 >>> (x5 &&& (31 : Int32))) = (0 : Int32) then 63 else 31) (lv' := [.ref 63, .int x1, .null, .int x3, .int x4, .int x5]) (st' := []) hX ok_Sets_lossOf rfl ?_
      refine kx_ite (fun c2 => ?_) (fun c2 => ?_)
      · refine kx_weak (lv' := [.null, .null, .null, .null, .int x4, .null]) (by simp [xsub]) ?_
        intro h; have h := Option.some.inj h; subst h
        exact hk
      · refine kx_go 2 (pc' := 34) (lv' := [.ref 63, .int x1, .null, .int x3, .int x4, .int x5]) (st' := [.int x5, .int x3]) hX ok_Sets_lossOf rfl ?_
        refine kx_S (as := [.int x3, .int x5]) hX ok_Sets_lossOf (nx := 37) rfl l_Sets_52 (fun _ => s_Sets_has (G := G) (d := 0) (Nat.le_refl _) C I x3 x5 _ rfl) (by omega) rfl (rest := []) rfl (Nat.le_of_ble_eq_true rfl) ⟨Nat.le_of_ble_eq_true rfl, Nat.le_of_ble_eq_true rfl⟩ ?_
        show _ → kW G X m_Sets_lossOf C I 0 0 37 [.ref 63, .int x1, .null, .int x3, .int x4, .int x5] [.int (M_Sets_has x3 x5)]
        refine kx_go 1 (pc' := if (M_Sets_has x3 x5) = (0 : Int32) then 57 else 40) (lv' := [.ref 63, .int x1, .null, .int x3, .int x4, .int x5]) (st' := []) hX ok_Sets_lossOf rfl ?_
        refine kx_ite (fun c3 => ?_) (fun c3 => ?_)
        · refine kx_go 2 (pc' := 17) (lv' := [.ref 63, .int x1, .null, .int x3, .int x4, .int (x5 + (1 : Int32))]) (st' := []) hX ok_Sets_lossOf rfl ?_
          exact fun h => ih x4 (x5 + (1 : Int32)) r hk h
        · refine kx_go 2 (pc' := 43) (lv' := [.ref 63, .int x1, .null, .int x3, .int x4, .int x5]) (st' := [.ref 63, .int x4]) hX ok_Sets_lossOf rfl ?_
          refine kx_getp hX ok_Sets_lossOf rfl (q := 67) (nx := 46) rfl ?_
          refine kx_go 5 (pc' := 53) (lv' := [.ref 63, .int x1, .null, .int x3, .int x4, .int x5]) (st' := [.int ((x1 * (8 : Int32)) + x5), .ref 67, .int x4]) hX ok_Sets_lossOf rfl ?_
          refine kx_iald hX ok_Sets_lossOf (w := 64) (nx := 54) rfl (fun b4 => ?_)
          refine kx_go 4 (pc' := 17) (lv' := [.ref 63, .int x1, .null, .int x3, .int (x4 + (I 67 ((x1 * (8 : Int32)) + x5).toNatClampNeg)), .int (x5 + (1 : Int32))]) (st' := []) hX ok_Sets_lossOf rfl ?_
          exact fun h => ih (x4 + (I 67 ((x1 * (8 : Int32)) + x5).toNatClampNeg)) (x5 + (1 : Int32)) r hk h
def M_Sets_lossOf (I : HI) (x1 : Int32) (x2 : Int32) : Option (Int32) := grd (bnd x1 8) (Option.bind (L_Sets_lossOf_17 x1 ((I 65 x1.toNatClampNeg) &&& (x2 ^^^ (-1 : Int32))) I 1000 (0 : Int32) (0 : Int32)) fun p2 => some p2)
theorem s_Sets_lossOf {G : xG} {d : Nat} (hd : 1 ≤ d) (C : HC) (I : HI) (x1 : Int32) (x2 : Int32)  (r : Int32) : M_Sets_lossOf I x1 x2 = some r → kM G d m_Sets_lossOf [.ref 63, .int x1, .int x2] C I 0 0 (some (.int r)) C I := by
  unfold M_Sets_lossOf
  refine kM.of (by decide +kernel) (Nat.le_of_ble_eq_true rfl) (lv := [.ref 63, .int x1, .int x2, .null, .null, .null]) rfl (fun X hX hE => ?_)
  refine kx_go 1 (pc' := 1) (lv' := [.ref 63, .int x1, .int x2, .null, .null, .null]) (st' := [.ref 63]) hX ok_Sets_lossOf rfl ?_
  refine kx_getp hX ok_Sets_lossOf rfl (q := 65) (nx := 4) rfl ?_
  refine kx_go 1 (pc' := 5) (lv' := [.ref 63, .int x1, .int x2, .null, .null, .null]) (st' := [.int x1, .ref 65]) hX ok_Sets_lossOf rfl ?_
  refine kx_iald hX ok_Sets_lossOf (w := 8) (nx := 6) rfl (fun b1 => ?_)
  refine kx_go 9 (pc' := 17) (lv' := [.ref 63, .int x1, .int x2, .int ((I 65 x1.toNatClampNeg) &&& (x2 ^^^ (-1 : Int32))), .int (0 : Int32), .int (0 : Int32)]) (st' := []) hX ok_Sets_lossOf rfl ?_
  refine kx_weak (lv' := [.ref 63, .int x1, .null, .int ((I 65 x1.toNatClampNeg) &&& (x2 ^^^ (-1 : Int32))), .int (0 : Int32), .int (0 : Int32)]) (by simp [xsub]) ?_
  refine kx_bind (fun p2 hp2 => ?_)
  refine kx_via (fun hk => s_L_Sets_lossOf_17 (G := G) (X := X) (by omega) hX C x1 ((I 65 x1.toNatClampNeg) &&& (x2 ^^^ (-1 : Int32))) I 1000 (0 : Int32) (0 : Int32) p2 hk hp2) ?_
  refine kx_go 1 (pc' := 65) (lv' := [.null, .null, .null, .null, .int p2, .null]) (st' := [.int p2]) hX ok_Sets_lossOf rfl ?_
  intro h; have h := Option.some.inj h; subst h
  exact kx_iret hX hE ok_Sets_lossOf (nx := 66) rfl rfl ⟨Nat.le_of_ble_eq_true rfl, Nat.le_of_ble_eq_true rfl⟩
def L_Sets_firstOfBest_2 (x1 : Int32) (x2 : Int32) (I : HI) : Nat → Int32 → Option (Nat × Int32)
  | 0, _ => none
  | f + 1, x3 => if x2 ≤ x3 then (some (1, x3)) else (if (M_Sets_has x1 x3) = (0 : Int32) then (Option.bind (M_Sets_lossOf I x3 x1) fun p3 => grd (bnd (x1 ||| ((1 : Int32) <<< (x3 &&& (31 : Int32)))) 256) (grd (bnd x1 256) (if (p3 + (I 70 (x1 ||| ((1 : Int32) <<< (x3 &&& (31 : Int32)))).toNatClampNeg)) = (I 70 x1.toNatClampNeg) then (some (0, x3)) else (L_Sets_firstOfBest_2 x1 x2 I f (x3 + (1 : Int32)))))) else (L_Sets_firstOfBest_2 x1 x2 I f (x3 + (1 : Int32))))
theorem s_L_Sets_firstOfBest_2 {G : xG} {X : xC} {d : Nat} (hd : 2 ≤ d) (hX : xAmb G X m_Sets_firstOfBest d 0 0)  (C : HC) (x1 : Int32) (x2 : Int32) (I : HI) : ∀ (f : Nat) (x3 : Int32) (r : Nat × Int32), (r.1 = 0 → kW G X m_Sets_firstOfBest C I 0 0 41 [.null, .null, .null, .int r.2] []) → (¬ r.1 = 0 → kW G X m_Sets_firstOfBest C I 0 0 49 [.null, .null, .null, .null] []) → L_Sets_firstOfBest_2 x1 x2 I f x3 = some r → kW G X m_Sets_firstOfBest C I 0 0 2 [.ref 63, .int x1, .int x2, .int x3] [] := by
  intro f
  induction f with
  | zero => intro x3 r hk0 hk1 h; rw [L_Sets_firstOfBest_2] at h; cases h
  | succ f ih =>
    intro x3 r hk0 hk1
    rw [L_Sets_firstOfBest_2]
    refine kx_go 3 (pc' := if x2 ≤ x3 then 49 else 7) (lv' := [.ref 63, .int x1, .int x2, .int x3]) (st' := []) hX ok_Sets_firstOfBest rfl ?_
    refine kx_ite (fun c1 => ?_) (fun c1 => ?_)
    · refine kx_weak (lv' := [.null, .null, .null, .null]) (by simp [xsub]) ?_
      intro h; have h := Option.some.inj h; subst h
      exact hk1 (show ¬ (1 : Nat) = 0 by decide)
    · refine kx_go 2 (pc' := 9) (lv' := [.ref 63, .int x1, .int x2, .int x3]) (st' := [.int x3, .int x1]) hX ok_Sets_firstOfBest rfl ?_
      refine kx_S (as := [.int x1, .int x3]) hX ok_Sets_firstOfBest (nx := 12) rfl l_Sets_52 (fun _ => s_Sets_has (G := G) (d := 0) (Nat.le_refl _) C I x1 x3 _ rfl) (by omega) rfl (rest := []) rfl (Nat.le_of_ble_eq_true rfl) ⟨Nat.le_of_ble_eq_true rfl, Nat.le_of_ble_eq_true rfl⟩ ?_
      show _ → kW G X m_Sets_firstOfBest C I 0 0 12 [.ref 63, .int x1, .int x2, .int x3] [.int (M_Sets_has x1 x3)]
      refine kx_go 1 (pc' := if (M_Sets_has x1 x3) = (0 : Int32) then 15 else 43) (lv' := [.ref 63, .int x1, .int x2, .int x3]) (st' := []) hX ok_Sets_firstOfBest rfl ?_
      refine kx_ite (fun c2 => ?_) (fun c2 => ?_)
      · refine kx_go 3 (pc' := 18) (lv' := [.ref 63, .int x1, .int x2, .int x3]) (st' := [.int x1, .int x3, .ref 63]) hX ok_Sets_firstOfBest rfl ?_
        refine kx_bind (fun p3 hp3 => ?_)
        refine kx_V (r := 63) (as := [.int x3, .int x1]) (by decide) hX ok_Sets_firstOfBest (nx := 21) rfl l_Sets_76 (by decide) rfl (fun _ => s_Sets_lossOf (G := G) (d := 1) (Nat.le_refl _) C I x3 x1 p3 hp3) (by omega) rfl (rest := []) rfl (Nat.le_of_ble_eq_true rfl) ⟨Nat.le_of_ble_eq_true rfl, Nat.le_of_ble_eq_true rfl⟩ ?_
        show _ → kW G X m_Sets_firstOfBest C I 0 0 21 [.ref 63, .int x1, .int x2, .int x3] [.int p3]
        refine kx_go 1 (pc' := 22) (lv' := [.ref 63, .int x1, .int x2, .int x3]) (st' := [.ref 63, .int p3]) hX ok_Sets_firstOfBest rfl ?_
        refine kx_getp hX ok_Sets_firstOfBest rfl (q := 70) (nx := 25) rfl ?_
        refine kx_go 5 (pc' := 30) (lv' := [.ref 63, .int x1, .int x2, .int x3]) (st' := [.int (x1 ||| ((1 : Int32) <<< (x3 &&& (31 : Int32)))), .ref 70, .int p3]) hX ok_Sets_firstOfBest rfl ?_
        refine kx_iald hX ok_Sets_firstOfBest (w := 256) (nx := 31) rfl (fun b4 => ?_)
        refine kx_go 2 (pc' := 33) (lv' := [.ref 63, .int x1, .int x2, .int x3]) (st' := [.ref 63, .int (p3 + (I 70 (x1 ||| ((1 : Int32) <<< (x3 &&& (31 : Int32)))).toNatClampNeg))]) hX ok_Sets_firstOfBest rfl ?_
        refine kx_getp hX ok_Sets_firstOfBest rfl (q := 70) (nx := 36) rfl ?_
        refine kx_go 1 (pc' := 37) (lv' := [.ref 63, .int x1, .int x2, .int x3]) (st' := [.int x1, .ref 70, .int (p3 + (I 70 (x1 ||| ((1 : Int32) <<< (x3 &&& (31 : Int32)))).toNatClampNeg))]) hX ok_Sets_firstOfBest rfl ?_
        refine kx_iald hX ok_Sets_firstOfBest (w := 256) (nx := 38) rfl (fun b5 => ?_)
        refine kx_go 1 (pc' := if (p3 + (I 70 (x1 ||| ((1 : Int32) <<< (x3 &&& (31 : Int32)))).toNatClampNeg)) = (I 70 x1.toNatClampNeg) then 41 else 43) (lv' := [.ref 63, .int x1, .int x2, .int x3]) (st' := []) hX ok_Sets_firstOfBest rfl ?_
        refine kx_ite (fun c6 => ?_) (fun c6 => ?_)
        · refine kx_weak (lv' := [.null, .null, .null, .int x3]) (by simp [xsub]) ?_
          intro h; have h := Option.some.inj h; subst h
          exact hk0 rfl
        · refine kx_go 2 (pc' := 2) (lv' := [.ref 63, .int x1, .int x2, .int (x3 + (1 : Int32))]) (st' := []) hX ok_Sets_firstOfBest rfl ?_
          exact fun h => ih (x3 + (1 : Int32)) r hk0 hk1 h
      · refine kx_go 2 (pc' := 2) (lv' := [.ref 63, .int x1, .int x2, .int (x3 + (1 : Int32))]) (st' := []) hX ok_Sets_firstOfBest rfl ?_
        exact fun h => ih (x3 + (1 : Int32)) r hk0 hk1 h
def M_Sets_firstOfBest (I : HI) (x1 : Int32) (x2 : Int32) : Option (Int32) := Option.bind (L_Sets_firstOfBest_2 x1 x2 I 1000 (0 : Int32)) fun p1 => if p1.1 = 0 then (some p1.2) else (some (0 : Int32))
theorem s_Sets_firstOfBest {G : xG} {d : Nat} (hd : 2 ≤ d) (C : HC) (I : HI) (x1 : Int32) (x2 : Int32)  (r : Int32) : M_Sets_firstOfBest I x1 x2 = some r → kM G d m_Sets_firstOfBest [.ref 63, .int x1, .int x2] C I 0 0 (some (.int r)) C I := by
  unfold M_Sets_firstOfBest
  refine kM.of (by decide +kernel) (Nat.le_of_ble_eq_true rfl) (lv := [.ref 63, .int x1, .int x2, .null]) rfl (fun X hX hE => ?_)
  refine kx_go 2 (pc' := 2) (lv' := [.ref 63, .int x1, .int x2, .int (0 : Int32)]) (st' := []) hX ok_Sets_firstOfBest rfl ?_
  refine kx_bind (fun p1 hp1 => ?_)
  refine kx_via2 (fun hk0 hk1 => s_L_Sets_firstOfBest_2 (G := G) (X := X) (by omega) hX C x1 x2 I 1000 (0 : Int32) p1 hk0 hk1 hp1) (fun _ => ?_) (fun _ => ?_)
  · refine kx_go 1 (pc' := 42) (lv' := [.null, .null, .null, .int p1.2]) (st' := [.int p1.2]) hX ok_Sets_firstOfBest rfl ?_
    intro h; have h := Option.some.inj h; subst h
    exact kx_iret hX hE ok_Sets_firstOfBest (nx := 43) rfl rfl ⟨Nat.le_of_ble_eq_true rfl, Nat.le_of_ble_eq_true rfl⟩
  · refine kx_go 1 (pc' := 50) (lv' := [.null, .null, .null, .null]) (st' := [.int (0 : Int32)]) hX ok_Sets_firstOfBest rfl ?_
    intro h; have h := Option.some.inj h; subst h
    exact kx_iret hX hE ok_Sets_firstOfBest (nx := 51) rfl rfl ⟨Nat.le_of_ble_eq_true rfl, Nat.le_of_ble_eq_true rfl⟩
def L_Sets_findBestOrder_44 (x2 : Int32) (x4 : Int32) : Nat → Int32 → HI → Option (HI)
  | 0, _, _ => none
  | f + 1, x5, I => if x2 ≤ x5 then (some I) else (if (M_Sets_has x4 x5) = (0 : Int32) then (grd (bnd x4 256) (Option.bind (M_Sets_lossOf I x5 x4) fun p4 => grd (bnd (x4 ||| ((1 : Int32) <<< (x5 &&& (31 : Int32)))) 256) (lt (xu I 70 x4.toNatClampNeg (mmin (I 70 x4.toNatClampNeg) (p4 + (I 70 (x4 ||| ((1 : Int32) <<< (x5 &&& (31 : Int32)))).toNatClampNeg)))) fun J6 => L_Sets_findBestOrder_44 x2 x4 f (x5 + (1 : Int32)) J6))) else (L_Sets_findBestOrder_44 x2 x4 f (x5 + (1 : Int32)) I))
theorem s_L_Sets_findBestOrder_44 {G : xG} {X : xC} {d : Nat} (hd : 5 ≤ d) (hX : xAmb G X m_Sets_findBestOrder d 0 0)  (C : HC) (x2 : Int32) (x4 : Int32) : ∀ (f : Nat) (x5 : Int32) (I : HI) (r : HI), (kW G X m_Sets_findBestOrder C r 0 0 104 [.ref 63, .null, .int x2, .null, .int x4, .null] []) → L_Sets_findBestOrder_44 x2 x4 f x5 I = some r → kW G X m_Sets_findBestOrder C I 0 0 44 [.ref 63, .null, .int x2, .null, .int x4, .int x5] [] := by
  intro f
  induction f with
  | zero => intro x5 I r hk h; rw [L_Sets_findBestOrder_44] at h; cases h
  | succ f ih =>
    intro x5 I r hk
    rw [L_Sets_findBestOrder_44]
    refine kx_go 3 (pc' := if x2 ≤ x5 then 104 else 50) (lv' := [.ref 63, .null, .int x2, .null, .int x4, .int x5]) (st' := []) hX ok_Sets_findBestOrder rfl ?_
    refine kx_ite (fun c1 => ?_) (fun c1 => ?_)
    · refine kx_weak (lv' := [.ref 63, .null, .int x2, .null, .int x4, .null]) (by simp [xsub]) ?_
      intro h; have h := Option.some.inj h; subst h
      exact hk
    · refine kx_go 2 (pc' := 54) (lv' := [.ref 63, .null, .int x2, .null, .int x4, .int x5]) (st' := [.int x5, .int x4]) hX ok_Sets_findBestOrder rfl ?_
      refine kx_S (as := [.int x4, .int x5]) hX ok_Sets_findBestOrder (nx := 57) rfl l_Sets_52 (fun _ => s_Sets_has (G := G) (d := 0) (Nat.le_refl _) C I x4 x5 _ rfl) (by omega) rfl (rest := []) rfl (Nat.le_of_ble_eq_true rfl) ⟨Nat.le_of_ble_eq_true rfl, Nat.le_of_ble_eq_true rfl⟩ ?_
      show _ → kW G X m_Sets_findBestOrder C I 0 0 57 [.ref 63, .null, .int x2, .null, .int x4, .int x5] [.int (M_Sets_has x4 x5)]
      refine kx_go 1 (pc' := if (M_Sets_has x4 x5) = (0 : Int32) then 60 else 98) (lv' := [.ref 63, .null, .int x2, .null, .int x4, .int x5]) (st' := []) hX ok_Sets_findBestOrder rfl ?_
      refine kx_ite (fun c2 => ?_) (fun c2 => ?_)
      · refine kx_go 1 (pc' := 61) (lv' := [.ref 63, .null, .int x2, .null, .int x4, .int x5]) (st' := [.ref 63]) hX ok_Sets_findBestOrder rfl ?_
        refine kx_getp hX ok_Sets_findBestOrder rfl (q := 70) (nx := 64) rfl ?_
        refine kx_go 2 (pc' := 67) (lv' := [.ref 63, .null, .int x2, .null, .int x4, .int x5]) (st' := [.ref 63, .int x4, .ref 70]) hX ok_Sets_findBestOrder rfl ?_
        refine kx_getp hX ok_Sets_findBestOrder rfl (q := 70) (nx := 70) rfl ?_
        refine kx_go 1 (pc' := 72) (lv' := [.ref 63, .null, .int x2, .null, .int x4, .int x5]) (st' := [.int x4, .ref 70, .int x4, .ref 70]) hX ok_Sets_findBestOrder rfl ?_
        refine kx_iald hX ok_Sets_findBestOrder (w := 256) (nx := 73) rfl (fun b3 => ?_)
        refine kx_go 3 (pc' := 78) (lv' := [.ref 63, .null, .int x2, .null, .int x4, .int x5]) (st' := [.int x4, .int x5, .ref 63, .int (I 70 x4.toNatClampNeg), .int x4, .ref 70]) hX ok_Sets_findBestOrder rfl ?_
        refine kx_bind (fun p4 hp4 => ?_)
        refine kx_V (r := 63) (as := [.int x5, .int x4]) (by decide) hX ok_Sets_findBestOrder (nx := 81) rfl l_Sets_76 (by decide) rfl (fun _ => s_Sets_lossOf (G := G) (d := 1) (Nat.le_refl _) C I x5 x4 p4 hp4) (by omega) rfl (rest := [.int (I 70 x4.toNatClampNeg), .int x4, .ref 70]) rfl (Nat.le_of_ble_eq_true rfl) ⟨Nat.le_of_ble_eq_true rfl, Nat.le_of_ble_eq_true rfl⟩ ?_
        show _ → kW G X m_Sets_findBestOrder C I 0 0 81 [.ref 63, .null, .int x2, .null, .int x4, .int x5] [.int p4, .int (I 70 x4.toNatClampNeg), .int x4, .ref 70]
        refine kx_go 1 (pc' := 82) (lv' := [.ref 63, .null, .int x2, .null, .int x4, .int x5]) (st' := [.ref 63, .int p4, .int (I 70 x4.toNatClampNeg), .int x4, .ref 70]) hX ok_Sets_findBestOrder rfl ?_
        refine kx_getp hX ok_Sets_findBestOrder rfl (q := 70) (nx := 85) rfl ?_
        refine kx_go 5 (pc' := 92) (lv' := [.ref 63, .null, .int x2, .null, .int x4, .int x5]) (st' := [.int (x4 ||| ((1 : Int32) <<< (x5 &&& (31 : Int32)))), .ref 70, .int p4, .int (I 70 x4.toNatClampNeg), .int x4, .ref 70]) hX ok_Sets_findBestOrder rfl ?_
        refine kx_iald hX ok_Sets_findBestOrder (w := 256) (nx := 93) rfl (fun b5 => ?_)
        refine kx_go 1 (pc' := 94) (lv' := [.ref 63, .null, .int x2, .null, .int x4, .int x5]) (st' := [.int (p4 + (I 70 (x4 ||| ((1 : Int32) <<< (x5 &&& (31 : Int32)))).toNatClampNeg)), .int (I 70 x4.toNatClampNeg), .int x4, .ref 70]) hX ok_Sets_findBestOrder rfl ?_
        refine kx_min (d := d) (by omega) ⟨Nat.le_of_ble_eq_true rfl, Nat.le_of_ble_eq_true rfl⟩ hX ok_Sets_findBestOrder (nx := 97) rfl l_Sets_79 (Nat.le_of_ble_eq_true rfl) ?_
        refine kx_iastc hX ok_Sets_findBestOrder (w := 256) (nx := 98) rfl b3 (k := x4.toNatClampNeg) rfl ?_
        refine kx_lt (Q := fun J6 => kW G X m_Sets_findBestOrder C J6 0 0 98 [.ref 63, .null, .int x2, .null, .int x4, .int x5] []) (fun J6 eJ6 => ?_)
        refine kx_go 2 (pc' := 44) (lv' := [.ref 63, .null, .int x2, .null, .int x4, .int (x5 + (1 : Int32))]) (st' := []) hX ok_Sets_findBestOrder rfl ?_
        exact fun h => ih (x5 + (1 : Int32)) J6 r hk h
      · refine kx_go 2 (pc' := 44) (lv' := [.ref 63, .null, .int x2, .null, .int x4, .int (x5 + (1 : Int32))]) (st' := []) hX ok_Sets_findBestOrder rfl ?_
        exact fun h => ih (x5 + (1 : Int32)) I r hk h
def L_Sets_findBestOrder_27 (x2 : Int32) : Nat → Int32 → HI → Option (HI)
  | 0, _, _ => none
  | f + 1, x4, I => if x4 < (0 : Int32) then (some I) else (grd (bnd x4 256) (lt (xu I 70 x4.toNatClampNeg (1000000 : Int32)) fun J3 => Option.bind (L_Sets_findBestOrder_44 x2 x4 1000 (0 : Int32) J3) fun p4 => L_Sets_findBestOrder_27 x2 f (x4 + (-1 : Int32)) p4))
theorem s_L_Sets_findBestOrder_27 {G : xG} {X : xC} {d : Nat} (hd : 5 ≤ d) (hX : xAmb G X m_Sets_findBestOrder d 0 0)  (C : HC) (x2 : Int32) : ∀ (f : Nat) (x4 : Int32) (I : HI) (r : HI), (kW G X m_Sets_findBestOrder C r 0 0 110 [.ref 63, .null, .int x2, .null, .null, .null] []) → L_Sets_findBestOrder_27 x2 f x4 I = some r → kW G X m_Sets_findBestOrder C I 0 0 27 [.ref 63, .null, .int x2, .null, .int x4, .null] [] := by
  intro f
  induction f with
  | zero => intro x4 I r hk h; rw [L_Sets_findBestOrder_27] at h; cases h
  | succ f ih =>
    intro x4 I r hk
    rw [L_Sets_findBestOrder_27]
    refine kx_go 2 (pc' := if x4 < (0 : Int32) then 110 else 32) (lv' := [.ref 63, .null, .int x2, .null, .int x4, .null]) (st' := []) hX ok_Sets_findBestOrder rfl ?_
    refine kx_ite (fun c1 => ?_) (fun c1 => ?_)
    · refine kx_weak (lv' := [.ref 63, .null, .int x2, .null, .null, .null]) (by simp [xsub]) ?_
      intro h; have h := Option.some.inj h; subst h
      exact hk
    · refine kx_go 1 (pc' := 33) (lv' := [.ref 63, .null, .int x2, .null, .int x4, .null]) (st' := [.ref 63]) hX ok_Sets_findBestOrder rfl ?_
      refine kx_getp hX ok_Sets_findBestOrder rfl (q := 70) (nx := 36) rfl ?_
      refine kx_go 2 (pc' := 40) (lv' := [.ref 63, .null, .int x2, .null, .int x4, .null]) (st' := [.int (1000000 : Int32), .int x4, .ref 70]) hX ok_Sets_findBestOrder rfl ?_
      refine kx_iast hX ok_Sets_findBestOrder (w := 256) (nx := 41) rfl (fun b2 => ?_)
      refine kx_lt (Q := fun J3 => kW G X m_Sets_findBestOrder C J3 0 0 41 [.ref 63, .null, .int x2, .null, .int x4, .null] []) (fun J3 eJ3 => ?_)
      refine kx_go 2 (pc' := 44) (lv' := [.ref 63, .null, .int x2, .null, .int x4, .int (0 : Int32)]) (st' := []) hX ok_Sets_findBestOrder rfl ?_
      refine kx_bind (fun p4 hp4 => ?_)
      refine kx_via (fun hk => s_L_Sets_findBestOrder_44 (G := G) (X := X) (by omega) hX C x2 x4 1000 (0 : Int32) J3 p4 hk hp4) ?_
      refine kx_go 2 (pc' := 27) (lv' := [.ref 63, .null, .int x2, .null, .int (x4 + (-1 : Int32)), .null]) (st' := []) hX ok_Sets_findBestOrder rfl ?_
      exact fun h => ih (x4 + (-1 : Int32)) p4 r hk h
def L_Sets_findBestOrder_116 (x2 : Int32) : Nat → Int32 → Int32 → HI → Option (HI)
  | 0, _, _, _ => none
  | f + 1, x4, x5, I => if x2 ≤ x5 then (some I) else (Option.bind (M_Sets_firstOfBest I x4 x2) fun p2 => grd (bnd x5 8) (lt (xu I 64 x5.toNatClampNeg p2) fun J4 => lt (x4 ||| ((1 : Int32) <<< ((J4 64 x5.toNatClampNeg) &&& (31 : Int32)))) fun y5 => L_Sets_findBestOrder_116 x2 f y5 (x5 + (1 : Int32)) J4))
theorem s_L_Sets_findBestOrder_116 {G : xG} {X : xC} {d : Nat} (hd : 5 ≤ d) (hX : xAmb G X m_Sets_findBestOrder d 0 0)  (C : HC) (x2 : Int32) : ∀ (f : Nat) (x4 : Int32) (x5 : Int32) (I : HI) (r : HI), (kW G X m_Sets_findBestOrder C r 0 0 156 [.null, .null, .null, .null, .null, .null] []) → L_Sets_findBestOrder_116 x2 f x4 x5 I = some r → kW G X m_Sets_findBestOrder C I 0 0 116 [.ref 63, .null, .int x2, .null, .int x4, .int x5] [] := by
  intro f
  induction f with
  | zero => intro x4 x5 I r hk h; rw [L_Sets_findBestOrder_116] at h; cases h
  | succ f ih =>
    intro x4 x5 I r hk
    rw [L_Sets_findBestOrder_116]
    refine kx_go 3 (pc' := if x2 ≤ x5 then 156 else 122) (lv' := [.ref 63, .null, .int x2, .null, .int x4, .int x5]) (st' := []) hX ok_Sets_findBestOrder rfl ?_
    refine kx_ite (fun c1 => ?_) (fun c1 => ?_)
    · refine kx_weak (lv' := [.null, .null, .null, .null, .null, .null]) (by simp [xsub]) ?_
      intro h; have h := Option.some.inj h; subst h
      exact hk
    · refine kx_go 1 (pc' := 123) (lv' := [.ref 63, .null, .int x2, .null, .int x4, .int x5]) (st' := [.ref 63]) hX ok_Sets_findBestOrder rfl ?_
      refine kx_getp hX ok_Sets_findBestOrder rfl (q := 64) (nx := 126) rfl ?_
      refine kx_go 4 (pc' := 132) (lv' := [.ref 63, .null, .int x2, .null, .int x4, .int x5]) (st' := [.int x2, .int x4, .ref 63, .int x5, .ref 64]) hX ok_Sets_findBestOrder rfl ?_
      refine kx_bind (fun p2 hp2 => ?_)
      refine kx_V (r := 63) (as := [.int x4, .int x2]) (by decide) hX ok_Sets_findBestOrder (nx := 135) rfl l_Sets_84 (by decide) rfl (fun _ => s_Sets_firstOfBest (G := G) (d := 2) (Nat.le_refl _) C I x4 x2 p2 hp2) (by omega) rfl (rest := [.int x5, .ref 64]) rfl (Nat.le_of_ble_eq_true rfl) ⟨Nat.le_of_ble_eq_true rfl, Nat.le_of_ble_eq_true rfl⟩ ?_
      show _ → kW G X m_Sets_findBestOrder C I 0 0 135 [.ref 63, .null, .int x2, .null, .int x4, .int x5] [.int p2, .int x5, .ref 64]
      refine kx_iast hX ok_Sets_findBestOrder (w := 8) (nx := 136) rfl (fun b3 => ?_)
      refine kx_lt (Q := fun J4 => kW G X m_Sets_findBestOrder C J4 0 0 136 [.ref 63, .null, .int x2, .null, .int x4, .int x5] []) (fun J4 eJ4 => ?_)
      refine kx_go 3 (pc' := 140) (lv' := [.ref 63, .null, .int x2, .null, .int x4, .int x5]) (st' := [.ref 63, .int (1 : Int32), .int x4]) hX ok_Sets_findBestOrder rfl ?_
      refine kx_getp hX ok_Sets_findBestOrder rfl (q := 64) (nx := 143) rfl ?_
      refine kx_go 1 (pc' := 145) (lv' := [.ref 63, .null, .int x2, .null, .int x4, .int x5]) (st' := [.int x5, .ref 64, .int (1 : Int32), .int x4]) hX ok_Sets_findBestOrder rfl ?_
      refine kx_ialdc hX ok_Sets_findBestOrder (w := 8) (nx := 146) rfl b3 (k := x5.toNatClampNeg) rfl ?_
      refine kx_go 3 (pc' := 150) (lv' := [.ref 63, .null, .int x2, .null, .int (x4 ||| ((1 : Int32) <<< ((J4 64 x5.toNatClampNeg) &&& (31 : Int32)))), .int x5]) (st' := []) hX ok_Sets_findBestOrder rfl ?_
      refine kx_lt (Q := fun y5 => kW G X m_Sets_findBestOrder C J4 0 0 150 [.ref 63, .null, .int x2, .null, .int y5, .int x5] []) (fun y5 ey5 => ?_)
      refine kx_go 2 (pc' := 116) (lv' := [.ref 63, .null, .int x2, .null, .int y5, .int (x5 + (1 : Int32))]) (st' := []) hX ok_Sets_findBestOrder rfl ?_
      exact fun h => ih y5 (x5 + (1 : Int32)) J4 r hk h
def M_Sets_findBestOrder (C : HC) (I : HI) : Option (HI) := Option.bind (M_Sets_findLosses C I) fun p1 => grd (bnd (M_Sets_allOf p1) 256) (lt (xu p1 70 (M_Sets_allOf p1).toNatClampNeg (0 : Int32)) fun J3 => Option.bind (L_Sets_findBestOrder_27 (p1 1 1) 1000 ((M_Sets_allOf p1) - (1 : Int32)) J3) fun p4 => Option.bind (L_Sets_findBestOrder_116 (p1 1 1) 1000 (0 : Int32) (0 : Int32) p4) fun p5 => some p5)
theorem s_Sets_findBestOrder {G : xG} {d : Nat} (hd : 5 ≤ d) (C : HC) (I : HI)   (r : HI) : M_Sets_findBestOrder C I = some r → kM G d m_Sets_findBestOrder [.ref 63, .ref 1] C I 0 0 none C r := by
  unfold M_Sets_findBestOrder
  refine kM.of (by decide +kernel) (Nat.le_of_ble_eq_true rfl) (lv := [.ref 63, .ref 1, .null, .null, .null, .null]) rfl (fun X hX hE => ?_)
  refine kx_go 2 (pc' := 2) (lv' := [.ref 63, .ref 1, .null, .null, .null, .null]) (st' := [.ref 1, .ref 63]) hX ok_Sets_findBestOrder rfl ?_
  refine kx_bind (fun p1 hp1 => ?_)
  refine kx_V (r := 63) (as := [.ref 1]) (by decide) hX ok_Sets_findBestOrder (nx := 5) rfl l_Sets_72 (by decide) rfl (fun _ => s_Sets_findLosses (G := G) (d := 4) (Nat.le_refl _) C I  p1 hp1) (by omega) rfl (rest := []) rfl (Nat.le_of_ble_eq_true rfl) ⟨Nat.le_of_ble_eq_true rfl, Nat.le_of_ble_eq_true rfl⟩ ?_
  show _ → kW G X m_Sets_findBestOrder C p1 0 0 5 [.ref 63, .ref 1, .null, .null, .null, .null] []
  refine kx_go 1 (pc' := 6) (lv' := [.ref 63, .ref 1, .null, .null, .null, .null]) (st' := [.ref 1]) hX ok_Sets_findBestOrder rfl ?_
  refine kx_geti hX ok_Sets_findBestOrder rfl (k := 1) (nx := 9) rfl ?_
  refine kx_go 2 (pc' := 11) (lv' := [.ref 63, .ref 1, .int (p1 1 1), .null, .null, .null]) (st' := [.ref 1]) hX ok_Sets_findBestOrder rfl ?_
  refine kx_S (as := [.ref 1]) hX ok_Sets_findBestOrder (nx := 14) rfl l_Sets_60 (fun _ => s_Sets_allOf (G := G) (d := 0) (Nat.le_refl _) C p1  _ rfl) (by omega) rfl (rest := []) rfl (Nat.le_of_ble_eq_true rfl) ⟨Nat.le_of_ble_eq_true rfl, Nat.le_of_ble_eq_true rfl⟩ ?_
  show _ → kW G X m_Sets_findBestOrder C p1 0 0 14 [.ref 63, .ref 1, .int (p1 1 1), .null, .null, .null] [.int (M_Sets_allOf p1)]
  refine kx_go 2 (pc' := 16) (lv' := [.ref 63, .ref 1, .int (p1 1 1), .int (M_Sets_allOf p1), .null, .null]) (st' := [.ref 63]) hX ok_Sets_findBestOrder rfl ?_
  refine kx_getp hX ok_Sets_findBestOrder rfl (q := 70) (nx := 19) rfl ?_
  refine kx_go 2 (pc' := 21) (lv' := [.ref 63, .ref 1, .int (p1 1 1), .int (M_Sets_allOf p1), .null, .null]) (st' := [.int (0 : Int32), .int (M_Sets_allOf p1), .ref 70]) hX ok_Sets_findBestOrder rfl ?_
  refine kx_iast hX ok_Sets_findBestOrder (w := 256) (nx := 22) rfl (fun b2 => ?_)
  refine kx_lt (Q := fun J3 => kW G X m_Sets_findBestOrder C J3 0 0 22 [.ref 63, .ref 1, .int (p1 1 1), .int (M_Sets_allOf p1), .null, .null] []) (fun J3 eJ3 => ?_)
  refine kx_go 4 (pc' := 27) (lv' := [.ref 63, .ref 1, .int (p1 1 1), .int (M_Sets_allOf p1), .int ((M_Sets_allOf p1) - (1 : Int32)), .null]) (st' := []) hX ok_Sets_findBestOrder rfl ?_
  refine kx_weak (lv' := [.ref 63, .null, .int (p1 1 1), .null, .int ((M_Sets_allOf p1) - (1 : Int32)), .null]) (by simp [xsub]) ?_
  refine kx_bind (fun p4 hp4 => ?_)
  refine kx_via (fun hk => s_L_Sets_findBestOrder_27 (G := G) (X := X) (by omega) hX C (p1 1 1) 1000 ((M_Sets_allOf p1) - (1 : Int32)) J3 p4 hk hp4) ?_
  refine kx_go 4 (pc' := 116) (lv' := [.ref 63, .null, .int (p1 1 1), .null, .int (0 : Int32), .int (0 : Int32)]) (st' := []) hX ok_Sets_findBestOrder rfl ?_
  refine kx_bind (fun p5 hp5 => ?_)
  refine kx_via (fun hk => s_L_Sets_findBestOrder_116 (G := G) (X := X) (by omega) hX C (p1 1 1) 1000 (0 : Int32) (0 : Int32) p4 p5 hk hp5) ?_
  intro h; have h := Option.some.inj h; subst h
  exact kx_vret hX hE ok_Sets_findBestOrder (nx := 157) rfl rfl ⟨Nat.le_of_ble_eq_true rfl, Nat.le_of_ble_eq_true rfl⟩
