def M_Sets_leastLoss (I : HI) : Int32 := (I 70 0)
theorem s_Sets_leastLoss {G : xG} {d : Nat} (hd : 0 ≤ d) (C : HC) (I : HI)   (r : Int32) : M_Sets_leastLoss I = r → kM G d m_Sets_leastLoss [.ref 63] C I 0 0 (some (.int r)) C I := by
  unfold M_Sets_leastLoss
  refine kM.of (by decide +kernel) (Nat.le_of_ble_eq_true rfl) (lv := [.ref 63]) rfl (fun X hX hE => ?_)
  refine kx_go 1 (pc' := 1) (lv' := [.ref 63]) (st' := [.ref 63]) hX ok_Sets_leastLoss rfl ?_
  refine kx_getp hX ok_Sets_leastLoss rfl (q := 70) (nx := 4) rfl ?_
  refine kx_go 1 (pc' := 5) (lv' := [.ref 63]) (st' := [.int (0 : Int32), .ref 70]) hX ok_Sets_leastLoss rfl ?_
  refine kx_ialdc hX ok_Sets_leastLoss (w := 256) (nx := 6) rfl rfl (k := 0) rfl ?_
  rintro rfl
  exact kx_iret hX hE ok_Sets_leastLoss (nx := 7) rfl rfl ⟨Nat.le_of_ble_eq_true rfl, Nat.le_of_ble_eq_true rfl⟩
def L_Sets_looksNotHeld_19 (x3 : Int32) (x4 : Int32) (I : HI) : Nat → Int32 → Int32 → Option (Int32)
  | 0, _, _ => none
  | f + 1, x2, x5 => if (I 1 5) ≤ x5 then (some x2) else (grd (bnd x5 12) (grd (bnd x4 8) (if (I 11 x5.toNatClampNeg) = (I 64 x4.toNatClampNeg) then (if (M_Sets_has x3 (I 12 x5.toNatClampNeg)) = (0 : Int32) then (L_Sets_looksNotHeld_19 x3 x4 I f (x2 ||| ((1 : Int32) <<< (x5 &&& (31 : Int32)))) (x5 + (1 : Int32))) else (L_Sets_looksNotHeld_19 x3 x4 I f x2 (x5 + (1 : Int32)))) else (L_Sets_looksNotHeld_19 x3 x4 I f x2 (x5 + (1 : Int32))))))
theorem s_L_Sets_looksNotHeld_19 {G : xG} {X : xC} {d : Nat} (hd : 1 ≤ d) (hX : xAmb G X m_Sets_looksNotHeld d 0 0)  (C : HC) (x3 : Int32) (x4 : Int32) (I : HI) : ∀ (f : Nat) (x2 : Int32) (x5 : Int32) (r : Int32), (kW G X m_Sets_looksNotHeld C I 0 0 72 [.ref 63, .ref 1, .int r, .int x3, .int x4, .null] []) → L_Sets_looksNotHeld_19 x3 x4 I f x2 x5 = some r → kW G X m_Sets_looksNotHeld C I 0 0 19 [.ref 63, .ref 1, .int x2, .int x3, .int x4, .int x5] [] := by
  intro f
  induction f with
  | zero => intro x2 x5 r hk h; rw [L_Sets_looksNotHeld_19] at h; cases h
  | succ f ih =>
    intro x2 x5 r hk
    rw [L_Sets_looksNotHeld_19]
    refine kx_go 2 (pc' := 22) (lv' := [.ref 63, .ref 1, .int x2, .int x3, .int x4, .int x5]) (st' := [.ref 1, .int x5]) hX ok_Sets_looksNotHeld rfl ?_
    refine kx_geti hX ok_Sets_looksNotHeld rfl (k := 5) (nx := 25) rfl ?_
    refine kx_go 1 (pc' := if (I 1 5) ≤ x5 then 72 else 28) (lv' := [.ref 63, .ref 1, .int x2, .int x3, .int x4, .int x5]) (st' := []) hX ok_Sets_looksNotHeld rfl ?_
    refine kx_ite (fun c1 => ?_) (fun c1 => ?_)
    · refine kx_weak (lv' := [.ref 63, .ref 1, .int x2, .int x3, .int x4, .null]) (by simp [xsub]) ?_
      intro h; have h := Option.some.inj h; subst h
      exact hk
    · refine kx_go 1 (pc' := 29) (lv' := [.ref 63, .ref 1, .int x2, .int x3, .int x4, .int x5]) (st' := [.ref 1]) hX ok_Sets_looksNotHeld rfl ?_
      refine kx_getp hX ok_Sets_looksNotHeld rfl (q := 11) (nx := 32) rfl ?_
      refine kx_go 1 (pc' := 34) (lv' := [.ref 63, .ref 1, .int x2, .int x3, .int x4, .int x5]) (st' := [.int x5, .ref 11]) hX ok_Sets_looksNotHeld rfl ?_
      refine kx_iald hX ok_Sets_looksNotHeld (w := 12) (nx := 35) rfl (fun b2 => ?_)
      refine kx_go 1 (pc' := 36) (lv' := [.ref 63, .ref 1, .int x2, .int x3, .int x4, .int x5]) (st' := [.ref 63, .int (I 11 x5.toNatClampNeg)]) hX ok_Sets_looksNotHeld rfl ?_
      refine kx_getp hX ok_Sets_looksNotHeld rfl (q := 64) (nx := 39) rfl ?_
      refine kx_go 1 (pc' := 41) (lv' := [.ref 63, .ref 1, .int x2, .int x3, .int x4, .int x5]) (st' := [.int x4, .ref 64, .int (I 11 x5.toNatClampNeg)]) hX ok_Sets_looksNotHeld rfl ?_
      refine kx_iald hX ok_Sets_looksNotHeld (w := 8) (nx := 42) rfl (fun b3 => ?_)
      refine kx_go 1 (pc' := if (I 11 x5.toNatClampNeg) = (I 64 x4.toNatClampNeg) then 45 else 66) (lv' := [.ref 63, .ref 1, .int x2, .int x3, .int x4, .int x5]) (st' := []) hX ok_Sets_looksNotHeld rfl ?_
      refine kx_ite (fun c4 => ?_) (fun c4 => ?_)
      · refine kx_go 2 (pc' := 47) (lv' := [.ref 63, .ref 1, .int x2, .int x3, .int x4, .int x5]) (st' := [.ref 1, .int x3]) hX ok_Sets_looksNotHeld rfl ?_
        refine kx_getp hX ok_Sets_looksNotHeld rfl (q := 12) (nx := 50) rfl ?_
        refine kx_go 1 (pc' := 52) (lv' := [.ref 63, .ref 1, .int x2, .int x3, .int x4, .int x5]) (st' := [.int x5, .ref 12, .int x3]) hX ok_Sets_looksNotHeld rfl ?_
        refine kx_ialdc hX ok_Sets_looksNotHeld (w := 12) (nx := 53) rfl b2 (k := x5.toNatClampNeg) rfl ?_
        refine kx_S (as := [.int x3, .int (I 12 x5.toNatClampNeg)]) hX ok_Sets_looksNotHeld (nx := 56) rfl l_Sets_52 (fun _ => s_Sets_has (G := G) (d := 0) (Nat.le_refl _) C I x3 (I 12 x5.toNatClampNeg) _ rfl) (by omega) rfl (rest := []) rfl (Nat.le_of_ble_eq_true rfl) ⟨Nat.le_of_ble_eq_true rfl, Nat.le_of_ble_eq_true rfl⟩ ?_
        show _ → kW G X m_Sets_looksNotHeld C I 0 0 56 [.ref 63, .ref 1, .int x2, .int x3, .int x4, .int x5] [.int (M_Sets_has x3 (I 12 x5.toNatClampNeg))]
        refine kx_go 1 (pc' := if (M_Sets_has x3 (I 12 x5.toNatClampNeg)) = (0 : Int32) then 59 else 66) (lv' := [.ref 63, .ref 1, .int x2, .int x3, .int x4, .int x5]) (st' := []) hX ok_Sets_looksNotHeld rfl ?_
        refine kx_ite (fun c5 => ?_) (fun c5 => ?_)
        · refine kx_go 8 (pc' := 19) (lv' := [.ref 63, .ref 1, .int (x2 ||| ((1 : Int32) <<< (x5 &&& (31 : Int32)))), .int x3, .int x4, .int (x5 + (1 : Int32))]) (st' := []) hX ok_Sets_looksNotHeld rfl ?_
          exact fun h => ih (x2 ||| ((1 : Int32) <<< (x5 &&& (31 : Int32)))) (x5 + (1 : Int32)) r hk h
        · refine kx_go 2 (pc' := 19) (lv' := [.ref 63, .ref 1, .int x2, .int x3, .int x4, .int (x5 + (1 : Int32))]) (st' := []) hX ok_Sets_looksNotHeld rfl ?_
          exact fun h => ih x2 (x5 + (1 : Int32)) r hk h
      · refine kx_go 2 (pc' := 19) (lv' := [.ref 63, .ref 1, .int x2, .int x3, .int x4, .int (x5 + (1 : Int32))]) (st' := []) hX ok_Sets_looksNotHeld rfl ?_
        exact fun h => ih x2 (x5 + (1 : Int32)) r hk h
def L_Sets_looksNotHeld_7 (I : HI) : Nat → Int32 → Int32 → Int32 → Option (Int32)
  | 0, _, _, _ => none
  | f + 1, x2, x3, x4 => if (I 1 1) ≤ x4 then (some x2) else (Option.bind (L_Sets_looksNotHeld_19 x3 x4 I 1000 x2 (0 : Int32)) fun p2 => grd (bnd x4 8) (lt (x3 ||| ((1 : Int32) <<< ((I 64 x4.toNatClampNeg) &&& (31 : Int32)))) fun y4 => L_Sets_looksNotHeld_7 I f p2 y4 (x4 + (1 : Int32))))
theorem s_L_Sets_looksNotHeld_7 {G : xG} {X : xC} {d : Nat} (hd : 1 ≤ d) (hX : xAmb G X m_Sets_looksNotHeld d 0 0)  (C : HC) (I : HI) : ∀ (f : Nat) (x2 : Int32) (x3 : Int32) (x4 : Int32) (r : Int32), (kW G X m_Sets_looksNotHeld C I 0 0 90 [.null, .null, .int r, .null, .null, .null] []) → L_Sets_looksNotHeld_7 I f x2 x3 x4 = some r → kW G X m_Sets_looksNotHeld C I 0 0 7 [.ref 63, .ref 1, .int x2, .int x3, .int x4, .null] [] := by
  intro f
  induction f with
  | zero => intro x2 x3 x4 r hk h; rw [L_Sets_looksNotHeld_7] at h; cases h
  | succ f ih =>
    intro x2 x3 x4 r hk
    rw [L_Sets_looksNotHeld_7]
    refine kx_go 2 (pc' := 10) (lv' := [.ref 63, .ref 1, .int x2, .int x3, .int x4, .null]) (st' := [.ref 1, .int x4]) hX ok_Sets_looksNotHeld rfl ?_
    refine kx_geti hX ok_Sets_looksNotHeld rfl (k := 1) (nx := 13) rfl ?_
    refine kx_go 1 (pc' := if (I 1 1) ≤ x4 then 90 else 16) (lv' := [.ref 63, .ref 1, .int x2, .int x3, .int x4, .null]) (st' := []) hX ok_Sets_looksNotHeld rfl ?_
    refine kx_ite (fun c1 => ?_) (fun c1 => ?_)
    · refine kx_weak (lv' := [.null, .null, .int x2, .null, .null, .null]) (by simp [xsub]) ?_
      intro h; have h := Option.some.inj h; subst h
      exact hk
    · refine kx_go 2 (pc' := 19) (lv' := [.ref 63, .ref 1, .int x2, .int x3, .int x4, .int (0 : Int32)]) (st' := []) hX ok_Sets_looksNotHeld rfl ?_
      refine kx_bind (fun p2 hp2 => ?_)
      refine kx_via (fun hk => s_L_Sets_looksNotHeld_19 (G := G) (X := X) (by omega) hX C x3 x4 I 1000 x2 (0 : Int32) p2 hk hp2) ?_
      refine kx_go 3 (pc' := 75) (lv' := [.ref 63, .ref 1, .int p2, .int x3, .int x4, .null]) (st' := [.ref 63, .int (1 : Int32), .int x3]) hX ok_Sets_looksNotHeld rfl ?_
      refine kx_getp hX ok_Sets_looksNotHeld rfl (q := 64) (nx := 78) rfl ?_
      refine kx_go 1 (pc' := 80) (lv' := [.ref 63, .ref 1, .int p2, .int x3, .int x4, .null]) (st' := [.int x4, .ref 64, .int (1 : Int32), .int x3]) hX ok_Sets_looksNotHeld rfl ?_
      refine kx_iald hX ok_Sets_looksNotHeld (w := 8) (nx := 81) rfl (fun b3 => ?_)
      refine kx_go 3 (pc' := 84) (lv' := [.ref 63, .ref 1, .int p2, .int (x3 ||| ((1 : Int32) <<< ((I 64 x4.toNatClampNeg) &&& (31 : Int32)))), .int x4, .null]) (st' := []) hX ok_Sets_looksNotHeld rfl ?_
      refine kx_lt (Q := fun y4 => kW G X m_Sets_looksNotHeld C I 0 0 84 [.ref 63, .ref 1, .int p2, .int y4, .int x4, .null] []) (fun y4 ey4 => ?_)
      refine kx_go 2 (pc' := 7) (lv' := [.ref 63, .ref 1, .int p2, .int y4, .int (x4 + (1 : Int32)), .null]) (st' := []) hX ok_Sets_looksNotHeld rfl ?_
      exact fun h => ih p2 y4 (x4 + (1 : Int32)) r hk h
def M_Sets_looksNotHeld (I : HI) : Option (Int32) := Option.bind (L_Sets_looksNotHeld_7 I 1000 (0 : Int32) (0 : Int32) (0 : Int32)) fun p1 => some p1
theorem s_Sets_looksNotHeld {G : xG} {d : Nat} (hd : 1 ≤ d) (C : HC) (I : HI)   (r : Int32) : M_Sets_looksNotHeld I = some r → kM G d m_Sets_looksNotHeld [.ref 63, .ref 1] C I 0 0 (some (.int r)) C I := by
  unfold M_Sets_looksNotHeld
  refine kM.of (by decide +kernel) (Nat.le_of_ble_eq_true rfl) (lv := [.ref 63, .ref 1, .null, .null, .null, .null]) rfl (fun X hX hE => ?_)
  refine kx_go 6 (pc' := 7) (lv' := [.ref 63, .ref 1, .int (0 : Int32), .int (0 : Int32), .int (0 : Int32), .null]) (st' := []) hX ok_Sets_looksNotHeld rfl ?_
  refine kx_bind (fun p1 hp1 => ?_)
  refine kx_via (fun hk => s_L_Sets_looksNotHeld_7 (G := G) (X := X) (by omega) hX C I 1000 (0 : Int32) (0 : Int32) (0 : Int32) p1 hk hp1) ?_
  refine kx_go 1 (pc' := 91) (lv' := [.null, .null, .int p1, .null, .null, .null]) (st' := [.int p1]) hX ok_Sets_looksNotHeld rfl ?_
  intro h; have h := Option.some.inj h; subst h
  exact kx_iret hX hE ok_Sets_looksNotHeld (nx := 92) rfl rfl ⟨Nat.le_of_ble_eq_true rfl, Nat.le_of_ble_eq_true rfl⟩
def M_H_wrong (C : HC) (I : HI) (x1 : Int32) : Option (Int32 × HI) := if (M_Wall_within x1 (1 : Int32)) = (0 : Int32) then (Option.bind (M_H_error I (1 : Int32)) fun p2 => some (p2.1, p2.2)) else (Option.bind (M_Sets_findBestOrder C I) fun p3 => if x1 = (0 : Int32) then (some ((M_Sets_leastLoss p3), p3)) else (Option.bind (M_Sets_looksNotHeld p3) fun p5 => some (p5, p3)))
theorem s_H_wrong {G : xG} {d : Nat} (hd : 6 ≤ d) (C : HC) (I : HI) (x1 : Int32)  (r : Int32 × HI) : M_H_wrong C I x1 = some r → kM G d m_H_wrong [.ref 0, .int x1] C I 0 0 (some (.int r.1)) C r.2 := by
  unfold M_H_wrong
  refine kM.of (by decide +kernel) (Nat.le_of_ble_eq_true rfl) (lv := [.ref 0, .int x1]) rfl (fun X hX hE => ?_)
  refine kx_go 2 (pc' := 2) (lv' := [.ref 0, .int x1]) (st' := [.int (1 : Int32), .int x1]) hX ok_H_wrong rfl ?_
  refine kx_S (as := [.int x1, .int (1 : Int32)]) hX ok_H_wrong (nx := 5) rfl l_H_56 (fun _ => s_Wall_within (G := G) (d := 0) (Nat.le_refl _) C I x1 (1 : Int32) _ rfl) (by omega) rfl (rest := []) rfl (Nat.le_of_ble_eq_true rfl) ⟨Nat.le_of_ble_eq_true rfl, Nat.le_of_ble_eq_true rfl⟩ ?_
  show _ → kW G X m_H_wrong C I 0 0 5 [.ref 0, .int x1] [.int (M_Wall_within x1 (1 : Int32))]
  refine kx_go 1 (pc' := if (M_Wall_within x1 (1 : Int32)) = (0 : Int32) then 8 else 14) (lv' := [.ref 0, .int x1]) (st' := []) hX ok_H_wrong rfl ?_
  refine kx_ite (fun c1 => ?_) (fun c1 => ?_)
  · refine kx_go 2 (pc' := 10) (lv' := [.ref 0, .int x1]) (st' := [.int (1 : Int32), .ref 0]) hX ok_H_wrong rfl ?_
    refine kx_bind (fun p2 hp2 => ?_)
    refine kx_V (r := 0) (as := [.int (1 : Int32)]) (by decide) hX ok_H_wrong (nx := 13) rfl l_H_60 (by decide) rfl (fun _ => s_H_error (G := G) (d := 0) (Nat.le_refl _) C I (1 : Int32) p2 hp2) (by omega) rfl (rest := []) rfl (Nat.le_of_ble_eq_true rfl) ⟨Nat.le_of_ble_eq_true rfl, Nat.le_of_ble_eq_true rfl⟩ ?_
    show _ → kW G X m_H_wrong C p2.2 0 0 13 [.ref 0, .int x1] [.int p2.1]
    intro h; have h := Option.some.inj h; subst h
    exact kx_iret hX hE ok_H_wrong (nx := 14) rfl rfl ⟨Nat.le_of_ble_eq_true rfl, Nat.le_of_ble_eq_true rfl⟩
  · refine kx_go 1 (pc' := 15) (lv' := [.ref 0, .int x1]) (st' := [.ref 0]) hX ok_H_wrong rfl ?_
    refine kx_getp hX ok_H_wrong rfl (q := 63) (nx := 18) rfl ?_
    refine kx_go 1 (pc' := 19) (lv' := [.ref 0, .int x1]) (st' := [.ref 0, .ref 63]) hX ok_H_wrong rfl ?_
    refine kx_getp hX ok_H_wrong rfl (q := 1) (nx := 22) rfl ?_
    refine kx_bind (fun p3 hp3 => ?_)
    refine kx_V (r := 63) (as := [.ref 1]) (by decide) hX ok_H_wrong (nx := 25) rfl l_H_163 (by decide) rfl (fun _ => s_Sets_findBestOrder (G := G) (d := 5) (Nat.le_refl _) C I  p3 hp3) (by omega) rfl (rest := []) rfl (Nat.le_of_ble_eq_true rfl) ⟨Nat.le_of_ble_eq_true rfl, Nat.le_of_ble_eq_true rfl⟩ ?_
    show _ → kW G X m_H_wrong C p3 0 0 25 [.ref 0, .int x1] []
    refine kx_go 2 (pc' := if x1 = (0 : Int32) then 29 else 39) (lv' := [.ref 0, .int x1]) (st' := []) hX ok_H_wrong rfl ?_
    refine kx_ite (fun c4 => ?_) (fun c4 => ?_)
    · refine kx_go 1 (pc' := 30) (lv' := [.ref 0, .int x1]) (st' := [.ref 0]) hX ok_H_wrong rfl ?_
      refine kx_getp hX ok_H_wrong rfl (q := 63) (nx := 33) rfl ?_
      refine kx_V (r := 63) (as := []) (by decide) hX ok_H_wrong (nx := 36) rfl l_H_167 (by decide) rfl (fun _ => s_Sets_leastLoss (G := G) (d := 0) (Nat.le_refl _) C p3  _ rfl) (by omega) rfl (rest := []) rfl (Nat.le_of_ble_eq_true rfl) ⟨Nat.le_of_ble_eq_true rfl, Nat.le_of_ble_eq_true rfl⟩ ?_
      show _ → kW G X m_H_wrong C p3 0 0 36 [.ref 0, .int x1] [.int (M_Sets_leastLoss p3)]
      refine kx_go 1 (pc' := 50) (lv' := [.ref 0, .int x1]) (st' := [.int (M_Sets_leastLoss p3)]) hX ok_H_wrong rfl ?_
      intro h; have h := Option.some.inj h; subst h
      exact kx_iret hX hE ok_H_wrong (nx := 51) rfl rfl ⟨Nat.le_of_ble_eq_true rfl, Nat.le_of_ble_eq_true rfl⟩
    · refine kx_go 1 (pc' := 40) (lv' := [.ref 0, .int x1]) (st' := [.ref 0]) hX ok_H_wrong rfl ?_
      refine kx_getp hX ok_H_wrong rfl (q := 63) (nx := 43) rfl ?_
      refine kx_go 1 (pc' := 44) (lv' := [.ref 0, .int x1]) (st' := [.ref 0, .ref 63]) hX ok_H_wrong rfl ?_
      refine kx_getp hX ok_H_wrong rfl (q := 1) (nx := 47) rfl ?_
      refine kx_bind (fun p5 hp5 => ?_)
      refine kx_V (r := 63) (as := [.ref 1]) (by decide) hX ok_H_wrong (nx := 50) rfl l_H_170 (by decide) rfl (fun _ => s_Sets_looksNotHeld (G := G) (d := 1) (Nat.le_refl _) C p3  p5 hp5) (by omega) rfl (rest := []) rfl (Nat.le_of_ble_eq_true rfl) ⟨Nat.le_of_ble_eq_true rfl, Nat.le_of_ble_eq_true rfl⟩ ?_
      show _ → kW G X m_H_wrong C p3 0 0 50 [.ref 0, .int x1] [.int p5]
      intro h; have h := Option.some.inj h; subst h
      exact kx_iret hX hE ok_H_wrong (nx := 51) rfl rfl ⟨Nat.le_of_ble_eq_true rfl, Nat.le_of_ble_eq_true rfl⟩
def M_H_best (C : HC) (I : HI) (x1 : Int32) : Option (Int32 × HI) := if (M_Wall_hasStroke I x1) = (0 : Int32) then (Option.bind (M_H_error I (1 : Int32)) fun p2 => some (p2.1, p2.2)) else (Option.bind (M_Sets_findBestOrder C I) fun p3 => grd (bnd x1 8) (some ((p3 64 x1.toNatClampNeg), p3)))
theorem s_H_best {G : xG} {d : Nat} (hd : 6 ≤ d) (C : HC) (I : HI) (x1 : Int32)  (r : Int32 × HI) : M_H_best C I x1 = some r → kM G d m_H_best [.ref 0, .int x1] C I 0 0 (some (.int r.1)) C r.2 := by
  unfold M_H_best
  refine kM.of (by decide +kernel) (Nat.le_of_ble_eq_true rfl) (lv := [.ref 0, .int x1]) rfl (fun X hX hE => ?_)
  refine kx_go 1 (pc' := 1) (lv' := [.ref 0, .int x1]) (st' := [.ref 0]) hX ok_H_best rfl ?_
  refine kx_getp hX ok_H_best rfl (q := 1) (nx := 4) rfl ?_
  refine kx_go 1 (pc' := 5) (lv' := [.ref 0, .int x1]) (st' := [.int x1, .ref 1]) hX ok_H_best rfl ?_
  refine kx_V (r := 1) (as := [.int x1]) (by decide) hX ok_H_best (nx := 8) rfl l_H_71 (by decide) rfl (fun _ => s_Wall_hasStroke (G := G) (d := 0) (Nat.le_refl _) C I x1 _ rfl) (by omega) rfl (rest := []) rfl (Nat.le_of_ble_eq_true rfl) ⟨Nat.le_of_ble_eq_true rfl, Nat.le_of_ble_eq_true rfl⟩ ?_
  show _ → kW G X m_H_best C I 0 0 8 [.ref 0, .int x1] [.int (M_Wall_hasStroke I x1)]
  refine kx_go 1 (pc' := if (M_Wall_hasStroke I x1) = (0 : Int32) then 11 else 17) (lv' := [.ref 0, .int x1]) (st' := []) hX ok_H_best rfl ?_
  refine kx_ite (fun c1 => ?_) (fun c1 => ?_)
  · refine kx_go 2 (pc' := 13) (lv' := [.ref 0, .int x1]) (st' := [.int (1 : Int32), .ref 0]) hX ok_H_best rfl ?_
    refine kx_bind (fun p2 hp2 => ?_)
    refine kx_V (r := 0) (as := [.int (1 : Int32)]) (by decide) hX ok_H_best (nx := 16) rfl l_H_60 (by decide) rfl (fun _ => s_H_error (G := G) (d := 0) (Nat.le_refl _) C I (1 : Int32) p2 hp2) (by omega) rfl (rest := []) rfl (Nat.le_of_ble_eq_true rfl) ⟨Nat.le_of_ble_eq_true rfl, Nat.le_of_ble_eq_true rfl⟩ ?_
    show _ → kW G X m_H_best C p2.2 0 0 16 [.ref 0, .int x1] [.int p2.1]
    intro h; have h := Option.some.inj h; subst h
    exact kx_iret hX hE ok_H_best (nx := 17) rfl rfl ⟨Nat.le_of_ble_eq_true rfl, Nat.le_of_ble_eq_true rfl⟩
  · refine kx_go 1 (pc' := 18) (lv' := [.ref 0, .int x1]) (st' := [.ref 0]) hX ok_H_best rfl ?_
    refine kx_getp hX ok_H_best rfl (q := 63) (nx := 21) rfl ?_
    refine kx_go 1 (pc' := 22) (lv' := [.ref 0, .int x1]) (st' := [.ref 0, .ref 63]) hX ok_H_best rfl ?_
    refine kx_getp hX ok_H_best rfl (q := 1) (nx := 25) rfl ?_
    refine kx_bind (fun p3 hp3 => ?_)
    refine kx_V (r := 63) (as := [.ref 1]) (by decide) hX ok_H_best (nx := 28) rfl l_H_163 (by decide) rfl (fun _ => s_Sets_findBestOrder (G := G) (d := 5) (Nat.le_refl _) C I  p3 hp3) (by omega) rfl (rest := []) rfl (Nat.le_of_ble_eq_true rfl) ⟨Nat.le_of_ble_eq_true rfl, Nat.le_of_ble_eq_true rfl⟩ ?_
    show _ → kW G X m_H_best C p3 0 0 28 [.ref 0, .int x1] []
    refine kx_go 1 (pc' := 29) (lv' := [.ref 0, .int x1]) (st' := [.ref 0]) hX ok_H_best rfl ?_
    refine kx_getp hX ok_H_best rfl (q := 63) (nx := 32) rfl ?_
    refine kx_getp hX ok_H_best rfl (q := 64) (nx := 35) rfl ?_
    refine kx_go 1 (pc' := 36) (lv' := [.ref 0, .int x1]) (st' := [.int x1, .ref 64]) hX ok_H_best rfl ?_
    refine kx_iald hX ok_H_best (w := 8) (nx := 37) rfl (fun b4 => ?_)
    intro h; have h := Option.some.inj h; subst h
    exact kx_iret hX hE ok_H_best (nx := 38) rfl rfl ⟨Nat.le_of_ble_eq_true rfl, Nat.le_of_ble_eq_true rfl⟩
def L_Spans_load_2 (C : HC) : Nat → Int32 → HI → Option (HI)
  | 0, _, _ => none
  | f + 1, x2, I => if (I 1 1) ≤ x2 then (some I) else (Option.bind (M_Wall_earlyOf C I x2) fun p2 => grd (bnd x2 8) (lt (xu p2.2 75 x2.toNatClampNeg p2.1) fun J4 => Option.bind (M_Wall_lateOf C J4 x2) fun p5 => lt (xu p5.2 76 x2.toNatClampNeg p5.1) fun J6 => L_Spans_load_2 C f (x2 + (1 : Int32)) J6))
theorem s_L_Spans_load_2 {G : xG} {X : xC} {d : Nat} (hd : 5 ≤ d) (hX : xAmb G X m_Spans_load d 0 0)  (C : HC) : ∀ (f : Nat) (x2 : Int32) (I : HI) (r : HI), (kW G X m_Spans_load C r 0 0 38 [.null, .null, .null] []) → L_Spans_load_2 C f x2 I = some r → kW G X m_Spans_load C I 0 0 2 [.ref 72, .ref 1, .int x2] [] := by
  intro f
  induction f with
  | zero => intro x2 I r hk h; rw [L_Spans_load_2] at h; cases h
  | succ f ih =>
    intro x2 I r hk
    rw [L_Spans_load_2]
    refine kx_go 2 (pc' := 4) (lv' := [.ref 72, .ref 1, .int x2]) (st' := [.ref 1, .int x2]) hX ok_Spans_load rfl ?_
    refine kx_geti hX ok_Spans_load rfl (k := 1) (nx := 7) rfl ?_
    refine kx_go 1 (pc' := if (I 1 1) ≤ x2 then 38 else 10) (lv' := [.ref 72, .ref 1, .int x2]) (st' := []) hX ok_Spans_load rfl ?_
    refine kx_ite (fun c1 => ?_) (fun c1 => ?_)
    · refine kx_weak (lv' := [.null, .null, .null]) (by simp [xsub]) ?_
      intro h; have h := Option.some.inj h; subst h
      exact hk
    · refine kx_go 1 (pc' := 11) (lv' := [.ref 72, .ref 1, .int x2]) (st' := [.ref 72]) hX ok_Spans_load rfl ?_
      refine kx_getp hX ok_Spans_load rfl (q := 75) (nx := 14) rfl ?_
      refine kx_go 3 (pc' := 17) (lv' := [.ref 72, .ref 1, .int x2]) (st' := [.int x2, .ref 1, .int x2, .ref 75]) hX ok_Spans_load rfl ?_
      refine kx_bind (fun p2 hp2 => ?_)
      refine kx_V (r := 1) (as := [.int x2]) (by decide) hX ok_Spans_load (nx := 20) rfl l_Spans_36 (by decide) rfl (fun _ => s_Wall_earlyOf (G := G) (d := 4) (Nat.le_refl _) C I x2 p2 hp2) (by omega) rfl (rest := [.int x2, .ref 75]) rfl (Nat.le_of_ble_eq_true rfl) ⟨Nat.le_of_ble_eq_true rfl, Nat.le_of_ble_eq_true rfl⟩ ?_
      show _ → kW G X m_Spans_load C p2.2 0 0 20 [.ref 72, .ref 1, .int x2] [.int p2.1, .int x2, .ref 75]
      refine kx_iast hX ok_Spans_load (w := 8) (nx := 21) rfl (fun b3 => ?_)
      refine kx_lt (Q := fun J4 => kW G X m_Spans_load C J4 0 0 21 [.ref 72, .ref 1, .int x2] []) (fun J4 eJ4 => ?_)
      refine kx_go 1 (pc' := 22) (lv' := [.ref 72, .ref 1, .int x2]) (st' := [.ref 72]) hX ok_Spans_load rfl ?_
      refine kx_getp hX ok_Spans_load rfl (q := 76) (nx := 25) rfl ?_
      refine kx_go 3 (pc' := 28) (lv' := [.ref 72, .ref 1, .int x2]) (st' := [.int x2, .ref 1, .int x2, .ref 76]) hX ok_Spans_load rfl ?_
      refine kx_bind (fun p5 hp5 => ?_)
      refine kx_V (r := 1) (as := [.int x2]) (by decide) hX ok_Spans_load (nx := 31) rfl l_Spans_40 (by decide) rfl (fun _ => s_Wall_lateOf (G := G) (d := 4) (Nat.le_refl _) C J4 x2 p5 hp5) (by omega) rfl (rest := [.int x2, .ref 76]) rfl (Nat.le_of_ble_eq_true rfl) ⟨Nat.le_of_ble_eq_true rfl, Nat.le_of_ble_eq_true rfl⟩ ?_
      show _ → kW G X m_Spans_load C p5.2 0 0 31 [.ref 72, .ref 1, .int x2] [.int p5.1, .int x2, .ref 76]
      refine kx_iastc hX ok_Spans_load (w := 8) (nx := 32) rfl b3 (k := x2.toNatClampNeg) rfl ?_
      refine kx_lt (Q := fun J6 => kW G X m_Spans_load C J6 0 0 32 [.ref 72, .ref 1, .int x2] []) (fun J6 eJ6 => ?_)
      refine kx_go 2 (pc' := 2) (lv' := [.ref 72, .ref 1, .int (x2 + (1 : Int32))]) (st' := []) hX ok_Spans_load rfl ?_
      exact fun h => ih (x2 + (1 : Int32)) J6 r hk h
def M_Spans_load (C : HC) (I : HI) : Option (HI) := Option.bind (L_Spans_load_2 C 1000 (0 : Int32) I) fun p1 => some p1
theorem s_Spans_load {G : xG} {d : Nat} (hd : 5 ≤ d) (C : HC) (I : HI)   (r : HI) : M_Spans_load C I = some r → kM G d m_Spans_load [.ref 72, .ref 1] C I 0 0 none C r := by
  unfold M_Spans_load
  refine kM.of (by decide +kernel) (Nat.le_of_ble_eq_true rfl) (lv := [.ref 72, .ref 1, .null]) rfl (fun X hX hE => ?_)
  refine kx_go 2 (pc' := 2) (lv' := [.ref 72, .ref 1, .int (0 : Int32)]) (st' := []) hX ok_Spans_load rfl ?_
  refine kx_bind (fun p1 hp1 => ?_)
  refine kx_via (fun hk => s_L_Spans_load_2 (G := G) (X := X) (by omega) hX C 1000 (0 : Int32) I p1 hk hp1) ?_
  intro h; have h := Option.some.inj h; subst h
  exact kx_vret hX hE ok_Spans_load (nx := 39) rfl rfl ⟨Nat.le_of_ble_eq_true rfl, Nat.le_of_ble_eq_true rfl⟩
def L_Spans_pushUp_32 (x3 : Int32) : Nat → Int32 → Int32 → HI → Option (Int32 × HI)
  | 0, _, _, _ => none
  | f + 1, x2, x4, I => if (I 1 5) ≤ x4 then (some (x2, I)) else (grd (bnd x4 12) (grd (bnd (I 12 x4.toNatClampNeg) 8) (grd (bnd (I 11 x4.toNatClampNeg) 8) (if ((I 73 (I 12 x4.toNatClampNeg).toNatClampNeg) + (1 : Int32)) ≤ (I 73 (I 11 x4.toNatClampNeg).toNatClampNeg) then (L_Spans_pushUp_32 x3 f x2 (x4 + (1 : Int32)) I) else (lt (xu I 73 (I 11 x4.toNatClampNeg).toNatClampNeg ((I 73 (I 12 x4.toNatClampNeg).toNatClampNeg) + (1 : Int32))) fun J6 => L_Spans_pushUp_32 x3 f (1 : Int32) (x4 + (1 : Int32)) J6)))))
theorem s_L_Spans_pushUp_32 {G : xG} {X : xC} {d : Nat} (hd : 0 ≤ d) (hX : xAmb G X m_Spans_pushUp d 0 0)  (C : HC) (x3 : Int32) : ∀ (f : Nat) (x2 : Int32) (x4 : Int32) (I : HI) (r : Int32 × HI), (kW G X m_Spans_pushUp C r.2 0 0 95 [.ref 72, .ref 1, .int r.1, .int x3, .null, .null, .null] []) → L_Spans_pushUp_32 x3 f x2 x4 I = some r → kW G X m_Spans_pushUp C I 0 0 32 [.ref 72, .ref 1, .int x2, .int x3, .int x4, .null, .null] [] := by
  intro f
  induction f with
  | zero => intro x2 x4 I r hk h; rw [L_Spans_pushUp_32] at h; cases h
  | succ f ih =>
    intro x2 x4 I r hk
    rw [L_Spans_pushUp_32]
    refine kx_go 2 (pc' := 35) (lv' := [.ref 72, .ref 1, .int x2, .int x3, .int x4, .null, .null]) (st' := [.ref 1, .int x4]) hX ok_Spans_pushUp rfl ?_
    refine kx_geti hX ok_Spans_pushUp rfl (k := 5) (nx := 38) rfl ?_
    refine kx_go 1 (pc' := if (I 1 5) ≤ x4 then 95 else 41) (lv' := [.ref 72, .ref 1, .int x2, .int x3, .int x4, .null, .null]) (st' := []) hX ok_Spans_pushUp rfl ?_
    refine kx_ite (fun c1 => ?_) (fun c1 => ?_)
    · refine kx_weak (lv' := [.ref 72, .ref 1, .int x2, .int x3, .null, .null, .null]) (by simp [xsub]) ?_
      intro h; have h := Option.some.inj h; subst h
      exact hk
    · refine kx_go 1 (pc' := 42) (lv' := [.ref 72, .ref 1, .int x2, .int x3, .int x4, .null, .null]) (st' := [.ref 1]) hX ok_Spans_pushUp rfl ?_
      refine kx_getp hX ok_Spans_pushUp rfl (q := 11) (nx := 45) rfl ?_
      refine kx_go 1 (pc' := 47) (lv' := [.ref 72, .ref 1, .int x2, .int x3, .int x4, .null, .null]) (st' := [.int x4, .ref 11]) hX ok_Spans_pushUp rfl ?_
      refine kx_iald hX ok_Spans_pushUp (w := 12) (nx := 48) rfl (fun b2 => ?_)
      refine kx_go 2 (pc' := 51) (lv' := [.ref 72, .ref 1, .int x2, .int x3, .int x4, .int (I 11 x4.toNatClampNeg), .null]) (st' := [.ref 72]) hX ok_Spans_pushUp rfl ?_
      refine kx_getp hX ok_Spans_pushUp rfl (q := 73) (nx := 54) rfl ?_
      refine kx_go 1 (pc' := 55) (lv' := [.ref 72, .ref 1, .int x2, .int x3, .int x4, .int (I 11 x4.toNatClampNeg), .null]) (st' := [.ref 1, .ref 73]) hX ok_Spans_pushUp rfl ?_
      refine kx_getp hX ok_Spans_pushUp rfl (q := 12) (nx := 58) rfl ?_
      refine kx_go 1 (pc' := 60) (lv' := [.ref 72, .ref 1, .int x2, .int x3, .int x4, .int (I 11 x4.toNatClampNeg), .null]) (st' := [.int x4, .ref 12, .ref 73]) hX ok_Spans_pushUp rfl ?_
      refine kx_ialdc hX ok_Spans_pushUp (w := 12) (nx := 61) rfl b2 (k := x4.toNatClampNeg) rfl ?_
      refine kx_iald hX ok_Spans_pushUp (w := 8) (nx := 62) rfl (fun b3 => ?_)
      refine kx_go 4 (pc' := 67) (lv' := [.ref 72, .ref 1, .int x2, .int x3, .int x4, .int (I 11 x4.toNatClampNeg), .int ((I 73 (I 12 x4.toNatClampNeg).toNatClampNeg) + (1 : Int32))]) (st' := [.ref 72]) hX ok_Spans_pushUp rfl ?_
      refine kx_getp hX ok_Spans_pushUp rfl (q := 73) (nx := 70) rfl ?_
      refine kx_go 1 (pc' := 72) (lv' := [.ref 72, .ref 1, .int x2, .int x3, .int x4, .int (I 11 x4.toNatClampNeg), .int ((I 73 (I 12 x4.toNatClampNeg).toNatClampNeg) + (1 : Int32))]) (st' := [.int (I 11 x4.toNatClampNeg), .ref 73]) hX ok_Spans_pushUp rfl ?_
      refine kx_iald hX ok_Spans_pushUp (w := 8) (nx := 73) rfl (fun b4 => ?_)
      refine kx_go 2 (pc' := if ((I 73 (I 12 x4.toNatClampNeg).toNatClampNeg) + (1 : Int32)) ≤ (I 73 (I 11 x4.toNatClampNeg).toNatClampNeg) then 89 else 78) (lv' := [.ref 72, .ref 1, .int x2, .int x3, .int x4, .int (I 11 x4.toNatClampNeg), .int ((I 73 (I 12 x4.toNatClampNeg).toNatClampNeg) + (1 : Int32))]) (st' := []) hX ok_Spans_pushUp rfl ?_
      refine kx_ite (fun c5 => ?_) (fun c5 => ?_)
      · refine kx_go 2 (pc' := 32) (lv' := [.ref 72, .ref 1, .int x2, .int x3, .int (x4 + (1 : Int32)), .int (I 11 x4.toNatClampNeg), .int ((I 73 (I 12 x4.toNatClampNeg).toNatClampNeg) + (1 : Int32))]) (st' := []) hX ok_Spans_pushUp rfl ?_
        refine kx_weak (lv' := [.ref 72, .ref 1, .int x2, .int x3, .int (x4 + (1 : Int32)), .null, .null]) (by simp [xsub]) ?_
        exact fun h => ih x2 (x4 + (1 : Int32)) I r hk h
      · refine kx_go 1 (pc' := 79) (lv' := [.ref 72, .ref 1, .int x2, .int x3, .int x4, .int (I 11 x4.toNatClampNeg), .int ((I 73 (I 12 x4.toNatClampNeg).toNatClampNeg) + (1 : Int32))]) (st' := [.ref 72]) hX ok_Spans_pushUp rfl ?_
        refine kx_getp hX ok_Spans_pushUp rfl (q := 73) (nx := 82) rfl ?_
        refine kx_go 2 (pc' := 86) (lv' := [.ref 72, .ref 1, .int x2, .int x3, .int x4, .int (I 11 x4.toNatClampNeg), .int ((I 73 (I 12 x4.toNatClampNeg).toNatClampNeg) + (1 : Int32))]) (st' := [.int ((I 73 (I 12 x4.toNatClampNeg).toNatClampNeg) + (1 : Int32)), .int (I 11 x4.toNatClampNeg), .ref 73]) hX ok_Spans_pushUp rfl ?_
        refine kx_iastc hX ok_Spans_pushUp (w := 8) (nx := 87) rfl b4 (k := (I 11 x4.toNatClampNeg).toNatClampNeg) rfl ?_
        refine kx_lt (Q := fun J6 => kW G X m_Spans_pushUp C J6 0 0 87 [.ref 72, .ref 1, .int x2, .int x3, .int x4, .int (I 11 x4.toNatClampNeg), .int ((I 73 (I 12 x4.toNatClampNeg).toNatClampNeg) + (1 : Int32))] []) (fun J6 eJ6 => ?_)
        refine kx_go 4 (pc' := 32) (lv' := [.ref 72, .ref 1, .int (1 : Int32), .int x3, .int (x4 + (1 : Int32)), .int (I 11 x4.toNatClampNeg), .int ((I 73 (I 12 x4.toNatClampNeg).toNatClampNeg) + (1 : Int32))]) (st' := []) hX ok_Spans_pushUp rfl ?_
        refine kx_weak (lv' := [.ref 72, .ref 1, .int (1 : Int32), .int x3, .int (x4 + (1 : Int32)), .null, .null]) (by simp [xsub]) ?_
        exact fun h => ih (1 : Int32) (x4 + (1 : Int32)) J6 r hk h
def L_Spans_pushUp_15  : Nat → Int32 → Int32 → HI → Option (Int32 × HI)
  | 0, _, _, _ => none
  | f + 1, x2, x3, I => if (I 1 1) ≤ x3 then (some (x2, I)) else (if x2 = (0 : Int32) then (some (x2, I)) else (Option.bind (L_Spans_pushUp_32 x3 1000 (0 : Int32) (0 : Int32) I) fun p3 => L_Spans_pushUp_15 f p3.1 (x3 + (1 : Int32)) p3.2))
theorem s_L_Spans_pushUp_15 {G : xG} {X : xC} {d : Nat} (hd : 0 ≤ d) (hX : xAmb G X m_Spans_pushUp d 0 0)  (C : HC) : ∀ (f : Nat) (x2 : Int32) (x3 : Int32) (I : HI) (r : Int32 × HI), (kW G X m_Spans_pushUp C r.2 0 0 101 [.null, .null, .int r.1, .null, .null, .null, .null] []) → L_Spans_pushUp_15 f x2 x3 I = some r → kW G X m_Spans_pushUp C I 0 0 15 [.ref 72, .ref 1, .int x2, .int x3, .null, .null, .null] [] := by
  intro f
  induction f with
  | zero => intro x2 x3 I r hk h; rw [L_Spans_pushUp_15] at h; cases h
  | succ f ih =>
    intro x2 x3 I r hk
    rw [L_Spans_pushUp_15]
    refine kx_go 2 (pc' := 17) (lv' := [.ref 72, .ref 1, .int x2, .int x3, .null, .null, .null]) (st' := [.ref 1, .int x3]) hX ok_Spans_pushUp rfl ?_
    refine kx_geti hX ok_Spans_pushUp rfl (k := 1) (nx := 20) rfl ?_
    refine kx_go 1 (pc' := if (I 1 1) ≤ x3 then 101 else 23) (lv' := [.ref 72, .ref 1, .int x2, .int x3, .null, .null, .null]) (st' := []) hX ok_Spans_pushUp rfl ?_
    refine kx_ite (fun c1 => ?_) (fun c1 => ?_)
    · refine kx_weak (lv' := [.null, .null, .int x2, .null, .null, .null, .null]) (by simp [xsub]) ?_
      intro h; have h := Option.some.inj h; subst h
      exact hk
    · refine kx_go 2 (pc' := if x2 = (0 : Int32) then 101 else 27) (lv' := [.ref 72, .ref 1, .int x2, .int x3, .null, .null, .null]) (st' := []) hX ok_Spans_pushUp rfl ?_
      refine kx_ite (fun c2 => ?_) (fun c2 => ?_)
      · refine kx_weak (lv' := [.null, .null, .int x2, .null, .null, .null, .null]) (by simp [xsub]) ?_
        intro h; have h := Option.some.inj h; subst h
        exact hk
      · refine kx_go 4 (pc' := 32) (lv' := [.ref 72, .ref 1, .int (0 : Int32), .int x3, .int (0 : Int32), .null, .null]) (st' := []) hX ok_Spans_pushUp rfl ?_
        refine kx_bind (fun p3 hp3 => ?_)
        refine kx_via (fun hk => s_L_Spans_pushUp_32 (G := G) (X := X) (by omega) hX C x3 1000 (0 : Int32) (0 : Int32) I p3 hk hp3) ?_
        refine kx_go 2 (pc' := 15) (lv' := [.ref 72, .ref 1, .int p3.1, .int (x3 + (1 : Int32)), .null, .null, .null]) (st' := []) hX ok_Spans_pushUp rfl ?_
        exact fun h => ih p3.1 (x3 + (1 : Int32)) p3.2 r hk h
def M_Spans_pushUp (I : HI) : Option (Int32 × HI) := if (I 1 5) ≤ (0 : Int32) then (Option.bind (L_Spans_pushUp_15 1000 (0 : Int32) (0 : Int32) I) fun p2 => if p2.1 = (0 : Int32) then (some ((1 : Int32), p2.2)) else (some ((0 : Int32), p2.2))) else (Option.bind (L_Spans_pushUp_15 1000 (1 : Int32) (0 : Int32) I) fun p4 => if p4.1 = (0 : Int32) then (some ((1 : Int32), p4.2)) else (some ((0 : Int32), p4.2)))
theorem s_Spans_pushUp {G : xG} {d : Nat} (hd : 0 ≤ d) (C : HC) (I : HI)   (r : Int32 × HI) : M_Spans_pushUp I = some r → kM G d m_Spans_pushUp [.ref 72, .ref 1] C I 0 0 (some (.int r.1)) C r.2 := by
  unfold M_Spans_pushUp
  refine kM.of (by decide +kernel) (Nat.le_of_ble_eq_true rfl) (lv := [.ref 72, .ref 1, .null, .null, .null, .null, .null]) rfl (fun X hX hE => ?_)
  refine kx_go 1 (pc' := 1) (lv' := [.ref 72, .ref 1, .null, .null, .null, .null, .null]) (st' := [.ref 1]) hX ok_Spans_pushUp rfl ?_
  refine kx_geti hX ok_Spans_pushUp rfl (k := 5) (nx := 4) rfl ?_
  refine kx_go 1 (pc' := if (I 1 5) ≤ (0 : Int32) then 11 else 7) (lv' := [.ref 72, .ref 1, .null, .null, .null, .null, .null]) (st' := []) hX ok_Spans_pushUp rfl ?_
  refine kx_ite (fun c1 => ?_) (fun c1 => ?_)
  · refine kx_go 4 (pc' := 15) (lv' := [.ref 72, .ref 1, .int (0 : Int32), .int (0 : Int32), .null, .null, .null]) (st' := []) hX ok_Spans_pushUp rfl ?_
    refine kx_bind (fun p2 hp2 => ?_)
    refine kx_via (fun hk => s_L_Spans_pushUp_15 (G := G) (X := X) (by omega) hX C 1000 (0 : Int32) (0 : Int32) I p2 hk hp2) ?_
    refine kx_go 2 (pc' := if p2.1 = (0 : Int32) then 105 else 109) (lv' := [.null, .null, .int p2.1, .null, .null, .null, .null]) (st' := []) hX ok_Spans_pushUp rfl ?_
    refine kx_ite (fun c3 => ?_) (fun c3 => ?_)
    · refine kx_go 2 (pc' := 110) (lv' := [.null, .null, .int p2.1, .null, .null, .null, .null]) (st' := [.int (1 : Int32)]) hX ok_Spans_pushUp rfl ?_
      intro h; have h := Option.some.inj h; subst h
      exact kx_zret hX hE ok_Spans_pushUp (nx := 111) rfl rfl (Or.inr rfl) ⟨Nat.le_of_ble_eq_true rfl, Nat.le_of_ble_eq_true rfl⟩
    · refine kx_go 1 (pc' := 110) (lv' := [.null, .null, .int p2.1, .null, .null, .null, .null]) (st' := [.int (0 : Int32)]) hX ok_Spans_pushUp rfl ?_
      intro h; have h := Option.some.inj h; subst h
      exact kx_zret hX hE ok_Spans_pushUp (nx := 111) rfl rfl (Or.inl rfl) ⟨Nat.le_of_ble_eq_true rfl, Nat.le_of_ble_eq_true rfl⟩
  · refine kx_go 5 (pc' := 15) (lv' := [.ref 72, .ref 1, .int (1 : Int32), .int (0 : Int32), .null, .null, .null]) (st' := []) hX ok_Spans_pushUp rfl ?_
    refine kx_bind (fun p4 hp4 => ?_)
    refine kx_via (fun hk => s_L_Spans_pushUp_15 (G := G) (X := X) (by omega) hX C 1000 (1 : Int32) (0 : Int32) I p4 hk hp4) ?_
    refine kx_go 2 (pc' := if p4.1 = (0 : Int32) then 105 else 109) (lv' := [.null, .null, .int p4.1, .null, .null, .null, .null]) (st' := []) hX ok_Spans_pushUp rfl ?_
    refine kx_ite (fun c5 => ?_) (fun c5 => ?_)
    · refine kx_go 2 (pc' := 110) (lv' := [.null, .null, .int p4.1, .null, .null, .null, .null]) (st' := [.int (1 : Int32)]) hX ok_Spans_pushUp rfl ?_
      intro h; have h := Option.some.inj h; subst h
      exact kx_zret hX hE ok_Spans_pushUp (nx := 111) rfl rfl (Or.inr rfl) ⟨Nat.le_of_ble_eq_true rfl, Nat.le_of_ble_eq_true rfl⟩
    · refine kx_go 1 (pc' := 110) (lv' := [.null, .null, .int p4.1, .null, .null, .null, .null]) (st' := [.int (0 : Int32)]) hX ok_Spans_pushUp rfl ?_
      intro h; have h := Option.some.inj h; subst h
      exact kx_zret hX hE ok_Spans_pushUp (nx := 111) rfl rfl (Or.inl rfl) ⟨Nat.le_of_ble_eq_true rfl, Nat.le_of_ble_eq_true rfl⟩
def L_Spans_pushDown_21 (x3 : Int32) : Nat → Int32 → Int32 → HI → Option (Int32 × HI)
  | 0, _, _, _ => none
  | f + 1, x2, x4, I => if (I 1 5) ≤ x4 then (some (x2, I)) else (grd (bnd x4 12) (grd (bnd (I 11 x4.toNatClampNeg) 8) (grd (bnd (I 12 x4.toNatClampNeg) 8) (if (I 74 (I 12 x4.toNatClampNeg).toNatClampNeg) ≤ ((I 74 (I 11 x4.toNatClampNeg).toNatClampNeg) - (1 : Int32)) then (L_Spans_pushDown_21 x3 f x2 (x4 + (1 : Int32)) I) else (lt (xu I 74 (I 12 x4.toNatClampNeg).toNatClampNeg ((I 74 (I 11 x4.toNatClampNeg).toNatClampNeg) - (1 : Int32))) fun J6 => L_Spans_pushDown_21 x3 f (1 : Int32) (x4 + (1 : Int32)) J6)))))
theorem s_L_Spans_pushDown_21 {G : xG} {X : xC} {d : Nat} (hd : 0 ≤ d) (hX : xAmb G X m_Spans_pushDown d 0 0)  (C : HC) (x3 : Int32) : ∀ (f : Nat) (x2 : Int32) (x4 : Int32) (I : HI) (r : Int32 × HI), (kW G X m_Spans_pushDown C r.2 0 0 84 [.ref 72, .ref 1, .int r.1, .int x3, .null, .null, .null] []) → L_Spans_pushDown_21 x3 f x2 x4 I = some r → kW G X m_Spans_pushDown C I 0 0 21 [.ref 72, .ref 1, .int x2, .int x3, .int x4, .null, .null] [] := by
  intro f
  induction f with
  | zero => intro x2 x4 I r hk h; rw [L_Spans_pushDown_21] at h; cases h
  | succ f ih =>
    intro x2 x4 I r hk
    rw [L_Spans_pushDown_21]
    refine kx_go 2 (pc' := 24) (lv' := [.ref 72, .ref 1, .int x2, .int x3, .int x4, .null, .null]) (st' := [.ref 1, .int x4]) hX ok_Spans_pushDown rfl ?_
    refine kx_geti hX ok_Spans_pushDown rfl (k := 5) (nx := 27) rfl ?_
    refine kx_go 1 (pc' := if (I 1 5) ≤ x4 then 84 else 30) (lv' := [.ref 72, .ref 1, .int x2, .int x3, .int x4, .null, .null]) (st' := []) hX ok_Spans_pushDown rfl ?_
    refine kx_ite (fun c1 => ?_) (fun c1 => ?_)
    · refine kx_weak (lv' := [.ref 72, .ref 1, .int x2, .int x3, .null, .null, .null]) (by simp [xsub]) ?_
      intro h; have h := Option.some.inj h; subst h
      exact hk
    · refine kx_go 1 (pc' := 31) (lv' := [.ref 72, .ref 1, .int x2, .int x3, .int x4, .null, .null]) (st' := [.ref 1]) hX ok_Spans_pushDown rfl ?_
      refine kx_getp hX ok_Spans_pushDown rfl (q := 12) (nx := 34) rfl ?_
      refine kx_go 1 (pc' := 36) (lv' := [.ref 72, .ref 1, .int x2, .int x3, .int x4, .null, .null]) (st' := [.int x4, .ref 12]) hX ok_Spans_pushDown rfl ?_
      refine kx_iald hX ok_Spans_pushDown (w := 12) (nx := 37) rfl (fun b2 => ?_)
      refine kx_go 2 (pc' := 40) (lv' := [.ref 72, .ref 1, .int x2, .int x3, .int x4, .int (I 12 x4.toNatClampNeg), .null]) (st' := [.ref 72]) hX ok_Spans_pushDown rfl ?_
      refine kx_getp hX ok_Spans_pushDown rfl (q := 74) (nx := 43) rfl ?_
      refine kx_go 1 (pc' := 44) (lv' := [.ref 72, .ref 1, .int x2, .int x3, .int x4, .int (I 12 x4.toNatClampNeg), .null]) (st' := [.ref 1, .ref 74]) hX ok_Spans_pushDown rfl ?_
      refine kx_getp hX ok_Spans_pushDown rfl (q := 11) (nx := 47) rfl ?_
      refine kx_go 1 (pc' := 49) (lv' := [.ref 72, .ref 1, .int x2, .int x3, .int x4, .int (I 12 x4.toNatClampNeg), .null]) (st' := [.int x4, .ref 11, .ref 74]) hX ok_Spans_pushDown rfl ?_
      refine kx_ialdc hX ok_Spans_pushDown (w := 12) (nx := 50) rfl b2 (k := x4.toNatClampNeg) rfl ?_
      refine kx_iald hX ok_Spans_pushDown (w := 8) (nx := 51) rfl (fun b3 => ?_)
      refine kx_go 4 (pc' := 56) (lv' := [.ref 72, .ref 1, .int x2, .int x3, .int x4, .int (I 12 x4.toNatClampNeg), .int ((I 74 (I 11 x4.toNatClampNeg).toNatClampNeg) - (1 : Int32))]) (st' := [.ref 72]) hX ok_Spans_pushDown rfl ?_
      refine kx_getp hX ok_Spans_pushDown rfl (q := 74) (nx := 59) rfl ?_
      refine kx_go 1 (pc' := 61) (lv' := [.ref 72, .ref 1, .int x2, .int x3, .int x4, .int (I 12 x4.toNatClampNeg), .int ((I 74 (I 11 x4.toNatClampNeg).toNatClampNeg) - (1 : Int32))]) (st' := [.int (I 12 x4.toNatClampNeg), .ref 74]) hX ok_Spans_pushDown rfl ?_
      refine kx_iald hX ok_Spans_pushDown (w := 8) (nx := 62) rfl (fun b4 => ?_)
      refine kx_go 2 (pc' := if (I 74 (I 12 x4.toNatClampNeg).toNatClampNeg) ≤ ((I 74 (I 11 x4.toNatClampNeg).toNatClampNeg) - (1 : Int32)) then 78 else 67) (lv' := [.ref 72, .ref 1, .int x2, .int x3, .int x4, .int (I 12 x4.toNatClampNeg), .int ((I 74 (I 11 x4.toNatClampNeg).toNatClampNeg) - (1 : Int32))]) (st' := []) hX ok_Spans_pushDown rfl ?_
      refine kx_ite (fun c5 => ?_) (fun c5 => ?_)
      · refine kx_go 2 (pc' := 21) (lv' := [.ref 72, .ref 1, .int x2, .int x3, .int (x4 + (1 : Int32)), .int (I 12 x4.toNatClampNeg), .int ((I 74 (I 11 x4.toNatClampNeg).toNatClampNeg) - (1 : Int32))]) (st' := []) hX ok_Spans_pushDown rfl ?_
        refine kx_weak (lv' := [.ref 72, .ref 1, .int x2, .int x3, .int (x4 + (1 : Int32)), .null, .null]) (by simp [xsub]) ?_
        exact fun h => ih x2 (x4 + (1 : Int32)) I r hk h
      · refine kx_go 1 (pc' := 68) (lv' := [.ref 72, .ref 1, .int x2, .int x3, .int x4, .int (I 12 x4.toNatClampNeg), .int ((I 74 (I 11 x4.toNatClampNeg).toNatClampNeg) - (1 : Int32))]) (st' := [.ref 72]) hX ok_Spans_pushDown rfl ?_
        refine kx_getp hX ok_Spans_pushDown rfl (q := 74) (nx := 71) rfl ?_
        refine kx_go 2 (pc' := 75) (lv' := [.ref 72, .ref 1, .int x2, .int x3, .int x4, .int (I 12 x4.toNatClampNeg), .int ((I 74 (I 11 x4.toNatClampNeg).toNatClampNeg) - (1 : Int32))]) (st' := [.int ((I 74 (I 11 x4.toNatClampNeg).toNatClampNeg) - (1 : Int32)), .int (I 12 x4.toNatClampNeg), .ref 74]) hX ok_Spans_pushDown rfl ?_
        refine kx_iastc hX ok_Spans_pushDown (w := 8) (nx := 76) rfl b4 (k := (I 12 x4.toNatClampNeg).toNatClampNeg) rfl ?_
        refine kx_lt (Q := fun J6 => kW G X m_Spans_pushDown C J6 0 0 76 [.ref 72, .ref 1, .int x2, .int x3, .int x4, .int (I 12 x4.toNatClampNeg), .int ((I 74 (I 11 x4.toNatClampNeg).toNatClampNeg) - (1 : Int32))] []) (fun J6 eJ6 => ?_)
        refine kx_go 4 (pc' := 21) (lv' := [.ref 72, .ref 1, .int (1 : Int32), .int x3, .int (x4 + (1 : Int32)), .int (I 12 x4.toNatClampNeg), .int ((I 74 (I 11 x4.toNatClampNeg).toNatClampNeg) - (1 : Int32))]) (st' := []) hX ok_Spans_pushDown rfl ?_
        refine kx_weak (lv' := [.ref 72, .ref 1, .int (1 : Int32), .int x3, .int (x4 + (1 : Int32)), .null, .null]) (by simp [xsub]) ?_
        exact fun h => ih (1 : Int32) (x4 + (1 : Int32)) J6 r hk h
def L_Spans_pushDown_4  : Nat → Int32 → Int32 → HI → Option (HI)
  | 0, _, _, _ => none
  | f + 1, x2, x3, I => if (I 1 1) ≤ x3 then (some I) else (if x2 = (0 : Int32) then (some I) else (Option.bind (L_Spans_pushDown_21 x3 1000 (0 : Int32) (0 : Int32) I) fun p3 => L_Spans_pushDown_4 f p3.1 (x3 + (1 : Int32)) p3.2))
theorem s_L_Spans_pushDown_4 {G : xG} {X : xC} {d : Nat} (hd : 0 ≤ d) (hX : xAmb G X m_Spans_pushDown d 0 0)  (C : HC) : ∀ (f : Nat) (x2 : Int32) (x3 : Int32) (I : HI) (r : HI), (kW G X m_Spans_pushDown C r 0 0 90 [.null, .null, .null, .null, .null, .null, .null] []) → L_Spans_pushDown_4 f x2 x3 I = some r → kW G X m_Spans_pushDown C I 0 0 4 [.ref 72, .ref 1, .int x2, .int x3, .null, .null, .null] [] := by
  intro f
  induction f with
  | zero => intro x2 x3 I r hk h; rw [L_Spans_pushDown_4] at h; cases h
  | succ f ih =>
    intro x2 x3 I r hk
    rw [L_Spans_pushDown_4]
    refine kx_go 2 (pc' := 6) (lv' := [.ref 72, .ref 1, .int x2, .int x3, .null, .null, .null]) (st' := [.ref 1, .int x3]) hX ok_Spans_pushDown rfl ?_
    refine kx_geti hX ok_Spans_pushDown rfl (k := 1) (nx := 9) rfl ?_
    refine kx_go 1 (pc' := if (I 1 1) ≤ x3 then 90 else 12) (lv' := [.ref 72, .ref 1, .int x2, .int x3, .null, .null, .null]) (st' := []) hX ok_Spans_pushDown rfl ?_
    refine kx_ite (fun c1 => ?_) (fun c1 => ?_)
    · refine kx_weak (lv' := [.null, .null, .null, .null, .null, .null, .null]) (by simp [xsub]) ?_
      intro h; have h := Option.some.inj h; subst h
      exact hk
    · refine kx_go 2 (pc' := if x2 = (0 : Int32) then 90 else 16) (lv' := [.ref 72, .ref 1, .int x2, .int x3, .null, .null, .null]) (st' := []) hX ok_Spans_pushDown rfl ?_
      refine kx_ite (fun c2 => ?_) (fun c2 => ?_)
      · refine kx_weak (lv' := [.null, .null, .null, .null, .null, .null, .null]) (by simp [xsub]) ?_
        intro h; have h := Option.some.inj h; subst h
        exact hk
      · refine kx_go 4 (pc' := 21) (lv' := [.ref 72, .ref 1, .int (0 : Int32), .int x3, .int (0 : Int32), .null, .null]) (st' := []) hX ok_Spans_pushDown rfl ?_
        refine kx_bind (fun p3 hp3 => ?_)
        refine kx_via (fun hk => s_L_Spans_pushDown_21 (G := G) (X := X) (by omega) hX C x3 1000 (0 : Int32) (0 : Int32) I p3 hk hp3) ?_
        refine kx_go 2 (pc' := 4) (lv' := [.ref 72, .ref 1, .int p3.1, .int (x3 + (1 : Int32)), .null, .null, .null]) (st' := []) hX ok_Spans_pushDown rfl ?_
        exact fun h => ih p3.1 (x3 + (1 : Int32)) p3.2 r hk h
def M_Spans_pushDown (I : HI) : Option (HI) := Option.bind (L_Spans_pushDown_4 1000 (1 : Int32) (0 : Int32) I) fun p1 => some p1
theorem s_Spans_pushDown {G : xG} {d : Nat} (hd : 0 ≤ d) (C : HC) (I : HI)   (r : HI) : M_Spans_pushDown I = some r → kM G d m_Spans_pushDown [.ref 72, .ref 1] C I 0 0 none C r := by
  unfold M_Spans_pushDown
  refine kM.of (by decide +kernel) (Nat.le_of_ble_eq_true rfl) (lv := [.ref 72, .ref 1, .null, .null, .null, .null, .null]) rfl (fun X hX hE => ?_)
  refine kx_go 4 (pc' := 4) (lv' := [.ref 72, .ref 1, .int (1 : Int32), .int (0 : Int32), .null, .null, .null]) (st' := []) hX ok_Spans_pushDown rfl ?_
  refine kx_bind (fun p1 hp1 => ?_)
  refine kx_via (fun hk => s_L_Spans_pushDown_4 (G := G) (X := X) (by omega) hX C 1000 (1 : Int32) (0 : Int32) I p1 hk hp1) ?_
  intro h; have h := Option.some.inj h; subst h
  exact kx_vret hX hE ok_Spans_pushDown (nx := 91) rfl rfl ⟨Nat.le_of_ble_eq_true rfl, Nat.le_of_ble_eq_true rfl⟩
def L_Spans_settle_2  : Nat → Int32 → HI → Option (HI)
  | 0, _, _ => none
  | f + 1, x2, I => if (I 1 1) ≤ x2 then (some I) else (grd (bnd x2 8) (lt (xu I 73 x2.toNatClampNeg (I 75 x2.toNatClampNeg)) fun J3 => lt (xu J3 74 x2.toNatClampNeg (J3 76 x2.toNatClampNeg)) fun J4 => L_Spans_settle_2 f (x2 + (1 : Int32)) J4))
theorem s_L_Spans_settle_2 {G : xG} {X : xC} {d : Nat} (hd : 1 ≤ d) (hX : xAmb G X m_Spans_settle d 0 0)  (C : HC) : ∀ (f : Nat) (x2 : Int32) (I : HI) (r : HI), (kW G X m_Spans_settle C r 0 0 40 [.ref 72, .ref 1, .null] []) → L_Spans_settle_2 f x2 I = some r → kW G X m_Spans_settle C I 0 0 2 [.ref 72, .ref 1, .int x2] [] := by
  intro f
  induction f with
  | zero => intro x2 I r hk h; rw [L_Spans_settle_2] at h; cases h
  | succ f ih =>
    intro x2 I r hk
    rw [L_Spans_settle_2]
    refine kx_go 2 (pc' := 4) (lv' := [.ref 72, .ref 1, .int x2]) (st' := [.ref 1, .int x2]) hX ok_Spans_settle rfl ?_
    refine kx_geti hX ok_Spans_settle rfl (k := 1) (nx := 7) rfl ?_
    refine kx_go 1 (pc' := if (I 1 1) ≤ x2 then 40 else 10) (lv' := [.ref 72, .ref 1, .int x2]) (st' := []) hX ok_Spans_settle rfl ?_
    refine kx_ite (fun c1 => ?_) (fun c1 => ?_)
    · refine kx_weak (lv' := [.ref 72, .ref 1, .null]) (by simp [xsub]) ?_
      intro h; have h := Option.some.inj h; subst h
      exact hk
    · refine kx_go 1 (pc' := 11) (lv' := [.ref 72, .ref 1, .int x2]) (st' := [.ref 72]) hX ok_Spans_settle rfl ?_
      refine kx_getp hX ok_Spans_settle rfl (q := 73) (nx := 14) rfl ?_
      refine kx_go 2 (pc' := 16) (lv' := [.ref 72, .ref 1, .int x2]) (st' := [.ref 72, .int x2, .ref 73]) hX ok_Spans_settle rfl ?_
      refine kx_getp hX ok_Spans_settle rfl (q := 75) (nx := 19) rfl ?_
      refine kx_go 1 (pc' := 20) (lv' := [.ref 72, .ref 1, .int x2]) (st' := [.int x2, .ref 75, .int x2, .ref 73]) hX ok_Spans_settle rfl ?_
      refine kx_iald hX ok_Spans_settle (w := 8) (nx := 21) rfl (fun b2 => ?_)
      refine kx_iastc hX ok_Spans_settle (w := 8) (nx := 22) rfl b2 (k := x2.toNatClampNeg) rfl ?_
      refine kx_lt (Q := fun J3 => kW G X m_Spans_settle C J3 0 0 22 [.ref 72, .ref 1, .int x2] []) (fun J3 eJ3 => ?_)
      refine kx_go 1 (pc' := 23) (lv' := [.ref 72, .ref 1, .int x2]) (st' := [.ref 72]) hX ok_Spans_settle rfl ?_
      refine kx_getp hX ok_Spans_settle rfl (q := 74) (nx := 26) rfl ?_
      refine kx_go 2 (pc' := 28) (lv' := [.ref 72, .ref 1, .int x2]) (st' := [.ref 72, .int x2, .ref 74]) hX ok_Spans_settle rfl ?_
      refine kx_getp hX ok_Spans_settle rfl (q := 76) (nx := 31) rfl ?_
      refine kx_go 1 (pc' := 32) (lv' := [.ref 72, .ref 1, .int x2]) (st' := [.int x2, .ref 76, .int x2, .ref 74]) hX ok_Spans_settle rfl ?_
      refine kx_ialdc hX ok_Spans_settle (w := 8) (nx := 33) rfl b2 (k := x2.toNatClampNeg) rfl ?_
      refine kx_iastc hX ok_Spans_settle (w := 8) (nx := 34) rfl b2 (k := x2.toNatClampNeg) rfl ?_
      refine kx_lt (Q := fun J4 => kW G X m_Spans_settle C J4 0 0 34 [.ref 72, .ref 1, .int x2] []) (fun J4 eJ4 => ?_)
      refine kx_go 2 (pc' := 2) (lv' := [.ref 72, .ref 1, .int (x2 + (1 : Int32))]) (st' := []) hX ok_Spans_settle rfl ?_
      exact fun h => ih (x2 + (1 : Int32)) J4 r hk h
def L_Spans_settle_52 (I : HI) : Nat → Int32 → Option (Nat)
  | 0, _ => none
  | f + 1, x2 => if (I 1 1) ≤ x2 then (some 1) else (grd (bnd x2 8) (if (I 73 x2.toNatClampNeg) ≤ (I 76 x2.toNatClampNeg) then (L_Spans_settle_52 I f (x2 + (1 : Int32))) else (some 0)))
theorem s_L_Spans_settle_52 {G : xG} {X : xC} {d : Nat} (hd : 1 ≤ d) (hX : xAmb G X m_Spans_settle d 0 0)  (C : HC) (I : HI) : ∀ (f : Nat) (x2 : Int32) (r : Nat), (r = 0 → kW G X m_Spans_settle C I 0 0 75 [.null, .null, .null] []) → (¬ r = 0 → kW G X m_Spans_settle C I 0 0 83 [.ref 72, .ref 1, .null] []) → L_Spans_settle_52 I f x2 = some r → kW G X m_Spans_settle C I 0 0 52 [.ref 72, .ref 1, .int x2] [] := by
  intro f
  induction f with
  | zero => intro x2 r hk0 hk1 h; rw [L_Spans_settle_52] at h; cases h
  | succ f ih =>
    intro x2 r hk0 hk1
    rw [L_Spans_settle_52]
    refine kx_go 2 (pc' := 54) (lv' := [.ref 72, .ref 1, .int x2]) (st' := [.ref 1, .int x2]) hX ok_Spans_settle rfl ?_
    refine kx_geti hX ok_Spans_settle rfl (k := 1) (nx := 57) rfl ?_
    refine kx_go 1 (pc' := if (I 1 1) ≤ x2 then 83 else 60) (lv' := [.ref 72, .ref 1, .int x2]) (st' := []) hX ok_Spans_settle rfl ?_
    refine kx_ite (fun c1 => ?_) (fun c1 => ?_)
    · refine kx_weak (lv' := [.ref 72, .ref 1, .null]) (by simp [xsub]) ?_
      intro h; have h := Option.some.inj h; subst h
      exact hk1 (show ¬ (1 : Nat) = 0 by decide)
    · refine kx_go 1 (pc' := 61) (lv' := [.ref 72, .ref 1, .int x2]) (st' := [.ref 72]) hX ok_Spans_settle rfl ?_
      refine kx_getp hX ok_Spans_settle rfl (q := 73) (nx := 64) rfl ?_
      refine kx_go 1 (pc' := 65) (lv' := [.ref 72, .ref 1, .int x2]) (st' := [.int x2, .ref 73]) hX ok_Spans_settle rfl ?_
      refine kx_iald hX ok_Spans_settle (w := 8) (nx := 66) rfl (fun b2 => ?_)
      refine kx_go 1 (pc' := 67) (lv' := [.ref 72, .ref 1, .int x2]) (st' := [.ref 72, .int (I 73 x2.toNatClampNeg)]) hX ok_Spans_settle rfl ?_
      refine kx_getp hX ok_Spans_settle rfl (q := 76) (nx := 70) rfl ?_
      refine kx_go 1 (pc' := 71) (lv' := [.ref 72, .ref 1, .int x2]) (st' := [.int x2, .ref 76, .int (I 73 x2.toNatClampNeg)]) hX ok_Spans_settle rfl ?_
      refine kx_ialdc hX ok_Spans_settle (w := 8) (nx := 72) rfl b2 (k := x2.toNatClampNeg) rfl ?_
      refine kx_go 1 (pc' := if (I 73 x2.toNatClampNeg) ≤ (I 76 x2.toNatClampNeg) then 77 else 75) (lv' := [.ref 72, .ref 1, .int x2]) (st' := []) hX ok_Spans_settle rfl ?_
      refine kx_ite (fun c3 => ?_) (fun c3 => ?_)
      · refine kx_go 2 (pc' := 52) (lv' := [.ref 72, .ref 1, .int (x2 + (1 : Int32))]) (st' := []) hX ok_Spans_settle rfl ?_
        exact fun h => ih (x2 + (1 : Int32)) r hk0 hk1 h
      · refine kx_weak (lv' := [.null, .null, .null]) (by simp [xsub]) ?_
        intro h; have h := Option.some.inj h; subst h
        exact hk0 rfl
def M_Spans_settle (I : HI) : Option (Int32 × HI) := Option.bind (L_Spans_settle_2 1000 (0 : Int32) I) fun p1 => Option.bind (M_Spans_pushUp p1) fun p2 => if p2.1 = (0 : Int32) then (some ((0 : Int32), p2.2)) else (Option.bind (L_Spans_settle_52 p2.2 1000 (0 : Int32)) fun p4 => if p4 = 0 then (some ((0 : Int32), p2.2)) else (Option.bind (M_Spans_pushDown p2.2) fun p5 => some ((1 : Int32), p5)))
theorem s_Spans_settle {G : xG} {d : Nat} (hd : 1 ≤ d) (C : HC) (I : HI)   (r : Int32 × HI) : M_Spans_settle I = some r → kM G d m_Spans_settle [.ref 72, .ref 1] C I 0 0 (some (.int r.1)) C r.2 := by
  unfold M_Spans_settle
  refine kM.of (by decide +kernel) (Nat.le_of_ble_eq_true rfl) (lv := [.ref 72, .ref 1, .null]) rfl (fun X hX hE => ?_)
  refine kx_go 2 (pc' := 2) (lv' := [.ref 72, .ref 1, .int (0 : Int32)]) (st' := []) hX ok_Spans_settle rfl ?_
  refine kx_bind (fun p1 hp1 => ?_)
  refine kx_via (fun hk => s_L_Spans_settle_2 (G := G) (X := X) (by omega) hX C 1000 (0 : Int32) I p1 hk hp1) ?_
  refine kx_go 2 (pc' := 42) (lv' := [.ref 72, .ref 1, .null]) (st' := [.ref 1, .ref 72]) hX ok_Spans_settle rfl ?_
  refine kx_bind (fun p2 hp2 => ?_)
  refine kx_V (r := 72) (as := [.ref 1]) (by decide) hX ok_Spans_settle (nx := 45) rfl l_Spans_43 (by decide) rfl (fun _ => s_Spans_pushUp (G := G) (d := 0) (Nat.le_refl _) C p1  p2 hp2) (by omega) rfl (rest := []) rfl (Nat.le_of_ble_eq_true rfl) ⟨Nat.le_of_ble_eq_true rfl, Nat.le_of_ble_eq_true rfl⟩ ?_
  show _ → kW G X m_Spans_settle C p2.2 0 0 45 [.ref 72, .ref 1, .null] [.int p2.1]
  refine kx_go 1 (pc' := if p2.1 = (0 : Int32) then 48 else 50) (lv' := [.ref 72, .ref 1, .null]) (st' := []) hX ok_Spans_settle rfl ?_
  refine kx_ite (fun c3 => ?_) (fun c3 => ?_)
  · refine kx_go 1 (pc' := 49) (lv' := [.ref 72, .ref 1, .null]) (st' := [.int (0 : Int32)]) hX ok_Spans_settle rfl ?_
    intro h; have h := Option.some.inj h; subst h
    exact kx_zret hX hE ok_Spans_settle (nx := 50) rfl rfl (Or.inl rfl) ⟨Nat.le_of_ble_eq_true rfl, Nat.le_of_ble_eq_true rfl⟩
  · refine kx_go 2 (pc' := 52) (lv' := [.ref 72, .ref 1, .int (0 : Int32)]) (st' := []) hX ok_Spans_settle rfl ?_
    refine kx_bind (fun p4 hp4 => ?_)
    refine kx_via2 (fun hk0 hk1 => s_L_Spans_settle_52 (G := G) (X := X) (by omega) hX C p2.2 1000 (0 : Int32) p4 hk0 hk1 hp4) (fun _ => ?_) (fun _ => ?_)
    · refine kx_go 1 (pc' := 76) (lv' := [.null, .null, .null]) (st' := [.int (0 : Int32)]) hX ok_Spans_settle rfl ?_
      intro h; have h := Option.some.inj h; subst h
      exact kx_zret hX hE ok_Spans_settle (nx := 77) rfl rfl (Or.inl rfl) ⟨Nat.le_of_ble_eq_true rfl, Nat.le_of_ble_eq_true rfl⟩
    · refine kx_go 2 (pc' := 85) (lv' := [.ref 72, .ref 1, .null]) (st' := [.ref 1, .ref 72]) hX ok_Spans_settle rfl ?_
      refine kx_bind (fun p5 hp5 => ?_)
      refine kx_V (r := 72) (as := [.ref 1]) (by decide) hX ok_Spans_settle (nx := 88) rfl l_Spans_47 (by decide) rfl (fun _ => s_Spans_pushDown (G := G) (d := 0) (Nat.le_refl _) C p2.2  p5 hp5) (by omega) rfl (rest := []) rfl (Nat.le_of_ble_eq_true rfl) ⟨Nat.le_of_ble_eq_true rfl, Nat.le_of_ble_eq_true rfl⟩ ?_
      show _ → kW G X m_Spans_settle C p5 0 0 88 [.ref 72, .ref 1, .null] []
      refine kx_go 1 (pc' := 89) (lv' := [.ref 72, .ref 1, .null]) (st' := [.int (1 : Int32)]) hX ok_Spans_settle rfl ?_
      intro h; have h := Option.some.inj h; subst h
      exact kx_zret hX hE ok_Spans_settle (nx := 90) rfl rfl (Or.inr rfl) ⟨Nat.le_of_ble_eq_true rfl, Nat.le_of_ble_eq_true rfl⟩
def M_H_span (C : HC) (I : HI) (x1 : Int32) (x2 : Int32) : Option (Int32 × HI) := if (M_Wall_hasStroke I x1) = (0 : Int32) then (Option.bind (M_H_error I (1 : Int32)) fun p2 => some (p2.1, p2.2)) else (if (M_Wall_within x2 (1 : Int32)) = (0 : Int32) then (Option.bind (M_H_error I (1 : Int32)) fun p4 => some (p4.1, p4.2)) else (Option.bind (M_Spans_load C I) fun p5 => Option.bind (M_Spans_settle p5) fun p6 => if p6.1 = (0 : Int32) then (Option.bind (M_H_error p6.2 (2 : Int32)) fun p8 => some (p8.1, p8.2)) else (if x2 = (0 : Int32) then (grd (bnd x1 8) (some ((p6.2 73 x1.toNatClampNeg), p6.2))) else (grd (bnd x1 8) (some ((p6.2 74 x1.toNatClampNeg), p6.2))))))
theorem s_H_span {G : xG} {d : Nat} (hd : 6 ≤ d) (C : HC) (I : HI) (x1 : Int32) (x2 : Int32)  (r : Int32 × HI) : M_H_span C I x1 x2 = some r → kM G d m_H_span [.ref 0, .int x1, .int x2] C I 0 0 (some (.int r.1)) C r.2 := by
  unfold M_H_span
  refine kM.of (by decide +kernel) (Nat.le_of_ble_eq_true rfl) (lv := [.ref 0, .int x1, .int x2]) rfl (fun X hX hE => ?_)
  refine kx_go 1 (pc' := 1) (lv' := [.ref 0, .int x1, .int x2]) (st' := [.ref 0]) hX ok_H_span rfl ?_
  refine kx_getp hX ok_H_span rfl (q := 1) (nx := 4) rfl ?_
  refine kx_go 1 (pc' := 5) (lv' := [.ref 0, .int x1, .int x2]) (st' := [.int x1, .ref 1]) hX ok_H_span rfl ?_
  refine kx_V (r := 1) (as := [.int x1]) (by decide) hX ok_H_span (nx := 8) rfl l_H_71 (by decide) rfl (fun _ => s_Wall_hasStroke (G := G) (d := 0) (Nat.le_refl _) C I x1 _ rfl) (by omega) rfl (rest := []) rfl (Nat.le_of_ble_eq_true rfl) ⟨Nat.le_of_ble_eq_true rfl, Nat.le_of_ble_eq_true rfl⟩ ?_
  show _ → kW G X m_H_span C I 0 0 8 [.ref 0, .int x1, .int x2] [.int (M_Wall_hasStroke I x1)]
  refine kx_go 1 (pc' := if (M_Wall_hasStroke I x1) = (0 : Int32) then 19 else 11) (lv' := [.ref 0, .int x1, .int x2]) (st' := []) hX ok_H_span rfl ?_
  refine kx_ite (fun c1 => ?_) (fun c1 => ?_)
  · refine kx_go 2 (pc' := 21) (lv' := [.ref 0, .int x1, .int x2]) (st' := [.int (1 : Int32), .ref 0]) hX ok_H_span rfl ?_
    refine kx_bind (fun p2 hp2 => ?_)
    refine kx_V (r := 0) (as := [.int (1 : Int32)]) (by decide) hX ok_H_span (nx := 24) rfl l_H_60 (by decide) rfl (fun _ => s_H_error (G := G) (d := 0) (Nat.le_refl _) C I (1 : Int32) p2 hp2) (by omega) rfl (rest := []) rfl (Nat.le_of_ble_eq_true rfl) ⟨Nat.le_of_ble_eq_true rfl, Nat.le_of_ble_eq_true rfl⟩ ?_
    show _ → kW G X m_H_span C p2.2 0 0 24 [.ref 0, .int x1, .int x2] [.int p2.1]
    intro h; have h := Option.some.inj h; subst h
    exact kx_iret hX hE ok_H_span (nx := 25) rfl rfl ⟨Nat.le_of_ble_eq_true rfl, Nat.le_of_ble_eq_true rfl⟩
  · refine kx_go 2 (pc' := 13) (lv' := [.ref 0, .int x1, .int x2]) (st' := [.int (1 : Int32), .int x2]) hX ok_H_span rfl ?_
    refine kx_S (as := [.int x2, .int (1 : Int32)]) hX ok_H_span (nx := 16) rfl l_H_56 (fun _ => s_Wall_within (G := G) (d := 0) (Nat.le_refl _) C I x2 (1 : Int32) _ rfl) (by omega) rfl (rest := []) rfl (Nat.le_of_ble_eq_true rfl) ⟨Nat.le_of_ble_eq_true rfl, Nat.le_of_ble_eq_true rfl⟩ ?_
    show _ → kW G X m_H_span C I 0 0 16 [.ref 0, .int x1, .int x2] [.int (M_Wall_within x2 (1 : Int32))]
    refine kx_go 1 (pc' := if (M_Wall_within x2 (1 : Int32)) = (0 : Int32) then 19 else 25) (lv' := [.ref 0, .int x1, .int x2]) (st' := []) hX ok_H_span rfl ?_
    refine kx_ite (fun c3 => ?_) (fun c3 => ?_)
    · refine kx_go 2 (pc' := 21) (lv' := [.ref 0, .int x1, .int x2]) (st' := [.int (1 : Int32), .ref 0]) hX ok_H_span rfl ?_
      refine kx_bind (fun p4 hp4 => ?_)
      refine kx_V (r := 0) (as := [.int (1 : Int32)]) (by decide) hX ok_H_span (nx := 24) rfl l_H_60 (by decide) rfl (fun _ => s_H_error (G := G) (d := 0) (Nat.le_refl _) C I (1 : Int32) p4 hp4) (by omega) rfl (rest := []) rfl (Nat.le_of_ble_eq_true rfl) ⟨Nat.le_of_ble_eq_true rfl, Nat.le_of_ble_eq_true rfl⟩ ?_
      show _ → kW G X m_H_span C p4.2 0 0 24 [.ref 0, .int x1, .int x2] [.int p4.1]
      intro h; have h := Option.some.inj h; subst h
      exact kx_iret hX hE ok_H_span (nx := 25) rfl rfl ⟨Nat.le_of_ble_eq_true rfl, Nat.le_of_ble_eq_true rfl⟩
    · refine kx_go 1 (pc' := 26) (lv' := [.ref 0, .int x1, .int x2]) (st' := [.ref 0]) hX ok_H_span rfl ?_
      refine kx_getp hX ok_H_span rfl (q := 72) (nx := 29) rfl ?_
      refine kx_go 1 (pc' := 30) (lv' := [.ref 0, .int x1, .int x2]) (st' := [.ref 0, .ref 72]) hX ok_H_span rfl ?_
      refine kx_getp hX ok_H_span rfl (q := 1) (nx := 33) rfl ?_
      refine kx_bind (fun p5 hp5 => ?_)
      refine kx_V (r := 72) (as := [.ref 1]) (by decide) hX ok_H_span (nx := 36) rfl l_H_176 (by decide) rfl (fun _ => s_Spans_load (G := G) (d := 5) (Nat.le_refl _) C I  p5 hp5) (by omega) rfl (rest := []) rfl (Nat.le_of_ble_eq_true rfl) ⟨Nat.le_of_ble_eq_true rfl, Nat.le_of_ble_eq_true rfl⟩ ?_
      show _ → kW G X m_H_span C p5 0 0 36 [.ref 0, .int x1, .int x2] []
      refine kx_go 1 (pc' := 37) (lv' := [.ref 0, .int x1, .int x2]) (st' := [.ref 0]) hX ok_H_span rfl ?_
      refine kx_getp hX ok_H_span rfl (q := 72) (nx := 40) rfl ?_
      refine kx_go 1 (pc' := 41) (lv' := [.ref 0, .int x1, .int x2]) (st' := [.ref 0, .ref 72]) hX ok_H_span rfl ?_
      refine kx_getp hX ok_H_span rfl (q := 1) (nx := 44) rfl ?_
      refine kx_bind (fun p6 hp6 => ?_)
      refine kx_V (r := 72) (as := [.ref 1]) (by decide) hX ok_H_span (nx := 47) rfl l_H_179 (by decide) rfl (fun _ => s_Spans_settle (G := G) (d := 1) (Nat.le_refl _) C p5  p6 hp6) (by omega) rfl (rest := []) rfl (Nat.le_of_ble_eq_true rfl) ⟨Nat.le_of_ble_eq_true rfl, Nat.le_of_ble_eq_true rfl⟩ ?_
      show _ → kW G X m_H_span C p6.2 0 0 47 [.ref 0, .int x1, .int x2] [.int p6.1]
      refine kx_go 1 (pc' := if p6.1 = (0 : Int32) then 50 else 56) (lv' := [.ref 0, .int x1, .int x2]) (st' := []) hX ok_H_span rfl ?_
      refine kx_ite (fun c7 => ?_) (fun c7 => ?_)
      · refine kx_go 2 (pc' := 52) (lv' := [.ref 0, .int x1, .int x2]) (st' := [.int (2 : Int32), .ref 0]) hX ok_H_span rfl ?_
        refine kx_bind (fun p8 hp8 => ?_)
        refine kx_V (r := 0) (as := [.int (2 : Int32)]) (by decide) hX ok_H_span (nx := 55) rfl l_H_60 (by decide) rfl (fun _ => s_H_error (G := G) (d := 0) (Nat.le_refl _) C p6.2 (2 : Int32) p8 hp8) (by omega) rfl (rest := []) rfl (Nat.le_of_ble_eq_true rfl) ⟨Nat.le_of_ble_eq_true rfl, Nat.le_of_ble_eq_true rfl⟩ ?_
        show _ → kW G X m_H_span C p8.2 0 0 55 [.ref 0, .int x1, .int x2] [.int p8.1]
        intro h; have h := Option.some.inj h; subst h
        exact kx_iret hX hE ok_H_span (nx := 56) rfl rfl ⟨Nat.le_of_ble_eq_true rfl, Nat.le_of_ble_eq_true rfl⟩
      · refine kx_go 2 (pc' := if x2 = (0 : Int32) then 60 else 72) (lv' := [.ref 0, .int x1, .int x2]) (st' := []) hX ok_H_span rfl ?_
        refine kx_ite (fun c9 => ?_) (fun c9 => ?_)
        · refine kx_go 1 (pc' := 61) (lv' := [.ref 0, .int x1, .int x2]) (st' := [.ref 0]) hX ok_H_span rfl ?_
          refine kx_getp hX ok_H_span rfl (q := 72) (nx := 64) rfl ?_
          refine kx_getp hX ok_H_span rfl (q := 73) (nx := 67) rfl ?_
          refine kx_go 1 (pc' := 68) (lv' := [.ref 0, .int x1, .int x2]) (st' := [.int x1, .ref 73]) hX ok_H_span rfl ?_
          refine kx_iald hX ok_H_span (w := 8) (nx := 69) rfl (fun b10 => ?_)
          refine kx_go 1 (pc' := 81) (lv' := [.ref 0, .int x1, .int x2]) (st' := [.int (p6.2 73 x1.toNatClampNeg)]) hX ok_H_span rfl ?_
          intro h; have h := Option.some.inj h; subst h
          exact kx_iret hX hE ok_H_span (nx := 82) rfl rfl ⟨Nat.le_of_ble_eq_true rfl, Nat.le_of_ble_eq_true rfl⟩
        · refine kx_go 1 (pc' := 73) (lv' := [.ref 0, .int x1, .int x2]) (st' := [.ref 0]) hX ok_H_span rfl ?_
          refine kx_getp hX ok_H_span rfl (q := 72) (nx := 76) rfl ?_
          refine kx_getp hX ok_H_span rfl (q := 74) (nx := 79) rfl ?_
          refine kx_go 1 (pc' := 80) (lv' := [.ref 0, .int x1, .int x2]) (st' := [.int x1, .ref 74]) hX ok_H_span rfl ?_
          refine kx_iald hX ok_H_span (w := 8) (nx := 81) rfl (fun b11 => ?_)
          intro h; have h := Option.some.inj h; subst h
          exact kx_iret hX hE ok_H_span (nx := 82) rfl rfl ⟨Nat.le_of_ble_eq_true rfl, Nat.le_of_ble_eq_true rfl⟩
def L_Spans_widthOf_4 (x1 : Int32) (I : HI) : Nat → Int32 → Int32 → Option (Int32)
  | 0, _, _ => none
  | f + 1, x2, x3 => if x1 ≤ x3 then (some x2) else (grd (bnd x3 8) (L_Spans_widthOf_4 x1 I f (x2 + ((I 74 x3.toNatClampNeg) - (I 73 x3.toNatClampNeg))) (x3 + (1 : Int32))))
theorem s_L_Spans_widthOf_4 {G : xG} {X : xC} {d : Nat} (hd : 0 ≤ d) (hX : xAmb G X m_Spans_widthOf d 0 0)  (C : HC) (x1 : Int32) (I : HI) : ∀ (f : Nat) (x2 : Int32) (x3 : Int32) (r : Int32), (kW G X m_Spans_widthOf C I 0 0 31 [.null, .null, .int r, .null] []) → L_Spans_widthOf_4 x1 I f x2 x3 = some r → kW G X m_Spans_widthOf C I 0 0 4 [.ref 72, .int x1, .int x2, .int x3] [] := by
  intro f
  induction f with
  | zero => intro x2 x3 r hk h; rw [L_Spans_widthOf_4] at h; cases h
  | succ f ih =>
    intro x2 x3 r hk
    rw [L_Spans_widthOf_4]
    refine kx_go 3 (pc' := if x1 ≤ x3 then 31 else 9) (lv' := [.ref 72, .int x1, .int x2, .int x3]) (st' := []) hX ok_Spans_widthOf rfl ?_
    refine kx_ite (fun c1 => ?_) (fun c1 => ?_)
    · refine kx_weak (lv' := [.null, .null, .int x2, .null]) (by simp [xsub]) ?_
      intro h; have h := Option.some.inj h; subst h
      exact hk
    · refine kx_go 2 (pc' := 11) (lv' := [.ref 72, .int x1, .int x2, .int x3]) (st' := [.ref 72, .int x2]) hX ok_Spans_widthOf rfl ?_
      refine kx_getp hX ok_Spans_widthOf rfl (q := 74) (nx := 14) rfl ?_
      refine kx_go 1 (pc' := 15) (lv' := [.ref 72, .int x1, .int x2, .int x3]) (st' := [.int x3, .ref 74, .int x2]) hX ok_Spans_widthOf rfl ?_
      refine kx_iald hX ok_Spans_widthOf (w := 8) (nx := 16) rfl (fun b2 => ?_)
      refine kx_go 1 (pc' := 17) (lv' := [.ref 72, .int x1, .int x2, .int x3]) (st' := [.ref 72, .int (I 74 x3.toNatClampNeg), .int x2]) hX ok_Spans_widthOf rfl ?_
      refine kx_getp hX ok_Spans_widthOf rfl (q := 73) (nx := 20) rfl ?_
      refine kx_go 1 (pc' := 21) (lv' := [.ref 72, .int x1, .int x2, .int x3]) (st' := [.int x3, .ref 73, .int (I 74 x3.toNatClampNeg), .int x2]) hX ok_Spans_widthOf rfl ?_
      refine kx_ialdc hX ok_Spans_widthOf (w := 8) (nx := 22) rfl b2 (k := x3.toNatClampNeg) rfl ?_
      refine kx_go 5 (pc' := 4) (lv' := [.ref 72, .int x1, .int (x2 + ((I 74 x3.toNatClampNeg) - (I 73 x3.toNatClampNeg))), .int (x3 + (1 : Int32))]) (st' := []) hX ok_Spans_widthOf rfl ?_
      exact fun h => ih (x2 + ((I 74 x3.toNatClampNeg) - (I 73 x3.toNatClampNeg))) (x3 + (1 : Int32)) r hk h
def M_Spans_widthOf (I : HI) (x1 : Int32) : Option (Int32) := Option.bind (L_Spans_widthOf_4 x1 I 1000 (0 : Int32) (0 : Int32)) fun p1 => some p1
theorem s_Spans_widthOf {G : xG} {d : Nat} (hd : 0 ≤ d) (C : HC) (I : HI) (x1 : Int32)  (r : Int32) : M_Spans_widthOf I x1 = some r → kM G d m_Spans_widthOf [.ref 72, .int x1] C I 0 0 (some (.int r)) C I := by
  unfold M_Spans_widthOf
  refine kM.of (by decide +kernel) (Nat.le_of_ble_eq_true rfl) (lv := [.ref 72, .int x1, .null, .null]) rfl (fun X hX hE => ?_)
  refine kx_go 4 (pc' := 4) (lv' := [.ref 72, .int x1, .int (0 : Int32), .int (0 : Int32)]) (st' := []) hX ok_Spans_widthOf rfl ?_
  refine kx_bind (fun p1 hp1 => ?_)
  refine kx_via (fun hk => s_L_Spans_widthOf_4 (G := G) (X := X) (by omega) hX C x1 I 1000 (0 : Int32) (0 : Int32) p1 hk hp1) ?_
  refine kx_go 1 (pc' := 32) (lv' := [.null, .null, .int p1, .null]) (st' := [.int p1]) hX ok_Spans_widthOf rfl ?_
  intro h; have h := Option.some.inj h; subst h
  exact kx_iret hX hE ok_Spans_widthOf (nx := 33) rfl rfl ⟨Nat.le_of_ble_eq_true rfl, Nat.le_of_ble_eq_true rfl⟩
def M_Spans_widthByTest (I : HI) (x2 : Int32) (x3 : Int32) : Option (Int32 × HI) := grd (bnd x2 8) (lt (xu I 75 x2.toNatClampNeg x3) fun J2 => lt (xu J2 76 x2.toNatClampNeg x3) fun J3 => Option.bind (M_Spans_settle J3) fun p4 => if p4.1 = (0 : Int32) then (lt (xu p4.2 75 x2.toNatClampNeg (I 75 x2.toNatClampNeg)) fun J6 => lt (xu J6 76 x2.toNatClampNeg (I 76 x2.toNatClampNeg)) fun J7 => some ((-1 : Int32), J7)) else (Option.bind (M_Spans_widthOf p4.2 (p4.2 1 1)) fun p8 => lt (xu p4.2 75 x2.toNatClampNeg (I 75 x2.toNatClampNeg)) fun J9 => lt (xu J9 76 x2.toNatClampNeg (I 76 x2.toNatClampNeg)) fun J10 => some (p8, J10)))
theorem s_Spans_widthByTest {G : xG} {d : Nat} (hd : 2 ≤ d) (C : HC) (I : HI) (x2 : Int32) (x3 : Int32)  (r : Int32 × HI) : M_Spans_widthByTest I x2 x3 = some r → kM G d m_Spans_widthByTest [.ref 72, .ref 1, .int x2, .int x3] C I 0 0 (some (.int r.1)) C r.2 := by
  unfold M_Spans_widthByTest
  refine kM.of (by decide +kernel) (Nat.le_of_ble_eq_true rfl) (lv := [.ref 72, .ref 1, .int x2, .int x3, .null, .null, .null]) rfl (fun X hX hE => ?_)
  refine kx_go 1 (pc' := 1) (lv' := [.ref 72, .ref 1, .int x2, .int x3, .null, .null, .null]) (st' := [.ref 72]) hX ok_Spans_widthByTest rfl ?_
  refine kx_getp hX ok_Spans_widthByTest rfl (q := 75) (nx := 4) rfl ?_
  refine kx_go 1 (pc' := 5) (lv' := [.ref 72, .ref 1, .int x2, .int x3, .null, .null, .null]) (st' := [.int x2, .ref 75]) hX ok_Spans_widthByTest rfl ?_
  refine kx_iald hX ok_Spans_widthByTest (w := 8) (nx := 6) rfl (fun b1 => ?_)
  refine kx_go 2 (pc' := 9) (lv' := [.ref 72, .ref 1, .int x2, .int x3, .int (I 75 x2.toNatClampNeg), .null, .null]) (st' := [.ref 72]) hX ok_Spans_widthByTest rfl ?_
  refine kx_getp hX ok_Spans_widthByTest rfl (q := 76) (nx := 12) rfl ?_
  refine kx_go 1 (pc' := 13) (lv' := [.ref 72, .ref 1, .int x2, .int x3, .int (I 75 x2.toNatClampNeg), .null, .null]) (st' := [.int x2, .ref 76]) hX ok_Spans_widthByTest rfl ?_
  refine kx_ialdc hX ok_Spans_widthByTest (w := 8) (nx := 14) rfl b1 (k := x2.toNatClampNeg) rfl ?_
  refine kx_go 2 (pc' := 17) (lv' := [.ref 72, .ref 1, .int x2, .int x3, .int (I 75 x2.toNatClampNeg), .int (I 76 x2.toNatClampNeg), .null]) (st' := [.ref 72]) hX ok_Spans_widthByTest rfl ?_
  refine kx_getp hX ok_Spans_widthByTest rfl (q := 75) (nx := 20) rfl ?_
  refine kx_go 2 (pc' := 22) (lv' := [.ref 72, .ref 1, .int x2, .int x3, .int (I 75 x2.toNatClampNeg), .int (I 76 x2.toNatClampNeg), .null]) (st' := [.int x3, .int x2, .ref 75]) hX ok_Spans_widthByTest rfl ?_
  refine kx_iastc hX ok_Spans_widthByTest (w := 8) (nx := 23) rfl b1 (k := x2.toNatClampNeg) rfl ?_
  refine kx_lt (Q := fun J2 => kW G X m_Spans_widthByTest C J2 0 0 23 [.ref 72, .ref 1, .int x2, .int x3, .int (I 75 x2.toNatClampNeg), .int (I 76 x2.toNatClampNeg), .null] []) (fun J2 eJ2 => ?_)
  refine kx_go 1 (pc' := 24) (lv' := [.ref 72, .ref 1, .int x2, .int x3, .int (I 75 x2.toNatClampNeg), .int (I 76 x2.toNatClampNeg), .null]) (st' := [.ref 72]) hX ok_Spans_widthByTest rfl ?_
  refine kx_getp hX ok_Spans_widthByTest rfl (q := 76) (nx := 27) rfl ?_
  refine kx_go 2 (pc' := 29) (lv' := [.ref 72, .ref 1, .int x2, .int x3, .int (I 75 x2.toNatClampNeg), .int (I 76 x2.toNatClampNeg), .null]) (st' := [.int x3, .int x2, .ref 76]) hX ok_Spans_widthByTest rfl ?_
  refine kx_iastc hX ok_Spans_widthByTest (w := 8) (nx := 30) rfl b1 (k := x2.toNatClampNeg) rfl ?_
  refine kx_lt (Q := fun J3 => kW G X m_Spans_widthByTest C J3 0 0 30 [.ref 72, .ref 1, .int x2, .int x3, .int (I 75 x2.toNatClampNeg), .int (I 76 x2.toNatClampNeg), .null] []) (fun J3 eJ3 => ?_)
  refine kx_go 2 (pc' := 32) (lv' := [.ref 72, .ref 1, .int x2, .int x3, .int (I 75 x2.toNatClampNeg), .int (I 76 x2.toNatClampNeg), .null]) (st' := [.ref 1, .ref 72]) hX ok_Spans_widthByTest rfl ?_
  refine kx_bind (fun p4 hp4 => ?_)
  refine kx_V (r := 72) (as := [.ref 1]) (by decide) hX ok_Spans_widthByTest (nx := 35) rfl l_Spans_60 (by decide) rfl (fun _ => s_Spans_settle (G := G) (d := 1) (Nat.le_refl _) C J3  p4 hp4) (by omega) rfl (rest := []) rfl (Nat.le_of_ble_eq_true rfl) ⟨Nat.le_of_ble_eq_true rfl, Nat.le_of_ble_eq_true rfl⟩ ?_
  show _ → kW G X m_Spans_widthByTest C p4.2 0 0 35 [.ref 72, .ref 1, .int x2, .int x3, .int (I 75 x2.toNatClampNeg), .int (I 76 x2.toNatClampNeg), .null] [.int p4.1]
  refine kx_go 1 (pc' := if p4.1 = (0 : Int32) then 49 else 38) (lv' := [.ref 72, .ref 1, .int x2, .int x3, .int (I 75 x2.toNatClampNeg), .int (I 76 x2.toNatClampNeg), .null]) (st' := []) hX ok_Spans_widthByTest rfl ?_
  refine kx_ite (fun c5 => ?_) (fun c5 => ?_)
  · refine kx_go 3 (pc' := 53) (lv' := [.ref 72, .ref 1, .int x2, .int x3, .int (I 75 x2.toNatClampNeg), .int (I 76 x2.toNatClampNeg), .int (-1 : Int32)]) (st' := [.ref 72]) hX ok_Spans_widthByTest rfl ?_
    refine kx_getp hX ok_Spans_widthByTest rfl (q := 75) (nx := 56) rfl ?_
    refine kx_go 2 (pc' := 59) (lv' := [.ref 72, .ref 1, .int x2, .int x3, .int (I 75 x2.toNatClampNeg), .int (I 76 x2.toNatClampNeg), .int (-1 : Int32)]) (st' := [.int (I 75 x2.toNatClampNeg), .int x2, .ref 75]) hX ok_Spans_widthByTest rfl ?_
    refine kx_iastc hX ok_Spans_widthByTest (w := 8) (nx := 60) rfl b1 (k := x2.toNatClampNeg) rfl ?_
    refine kx_lt (Q := fun J6 => kW G X m_Spans_widthByTest C J6 0 0 60 [.ref 72, .ref 1, .int x2, .int x3, .int (I 75 x2.toNatClampNeg), .int (I 76 x2.toNatClampNeg), .int (-1 : Int32)] []) (fun J6 eJ6 => ?_)
    refine kx_go 1 (pc' := 61) (lv' := [.ref 72, .ref 1, .int x2, .int x3, .int (I 75 x2.toNatClampNeg), .int (I 76 x2.toNatClampNeg), .int (-1 : Int32)]) (st' := [.ref 72]) hX ok_Spans_widthByTest rfl ?_
    refine kx_getp hX ok_Spans_widthByTest rfl (q := 76) (nx := 64) rfl ?_
    refine kx_go 2 (pc' := 67) (lv' := [.ref 72, .ref 1, .int x2, .int x3, .int (I 75 x2.toNatClampNeg), .int (I 76 x2.toNatClampNeg), .int (-1 : Int32)]) (st' := [.int (I 76 x2.toNatClampNeg), .int x2, .ref 76]) hX ok_Spans_widthByTest rfl ?_
    refine kx_iastc hX ok_Spans_widthByTest (w := 8) (nx := 68) rfl b1 (k := x2.toNatClampNeg) rfl ?_
    refine kx_lt (Q := fun J7 => kW G X m_Spans_widthByTest C J7 0 0 68 [.ref 72, .ref 1, .int x2, .int x3, .int (I 75 x2.toNatClampNeg), .int (I 76 x2.toNatClampNeg), .int (-1 : Int32)] []) (fun J7 eJ7 => ?_)
    refine kx_go 1 (pc' := 70) (lv' := [.ref 72, .ref 1, .int x2, .int x3, .int (I 75 x2.toNatClampNeg), .int (I 76 x2.toNatClampNeg), .int (-1 : Int32)]) (st' := [.int (-1 : Int32)]) hX ok_Spans_widthByTest rfl ?_
    intro h; have h := Option.some.inj h; subst h
    exact kx_iret hX hE ok_Spans_widthByTest (nx := 71) rfl rfl ⟨Nat.le_of_ble_eq_true rfl, Nat.le_of_ble_eq_true rfl⟩
  · refine kx_go 2 (pc' := 40) (lv' := [.ref 72, .ref 1, .int x2, .int x3, .int (I 75 x2.toNatClampNeg), .int (I 76 x2.toNatClampNeg), .null]) (st' := [.ref 1, .ref 72]) hX ok_Spans_widthByTest rfl ?_
    refine kx_geti hX ok_Spans_widthByTest rfl (k := 1) (nx := 43) rfl ?_
    refine kx_bind (fun p8 hp8 => ?_)
    refine kx_V (r := 72) (as := [.int (p4.2 1 1)]) (by decide) hX ok_Spans_widthByTest (nx := 46) rfl l_Spans_63 (by decide) rfl (fun _ => s_Spans_widthOf (G := G) (d := 0) (Nat.le_refl _) C p4.2 (p4.2 1 1) p8 hp8) (by omega) rfl (rest := []) rfl (Nat.le_of_ble_eq_true rfl) ⟨Nat.le_of_ble_eq_true rfl, Nat.le_of_ble_eq_true rfl⟩ ?_
    show _ → kW G X m_Spans_widthByTest C p4.2 0 0 46 [.ref 72, .ref 1, .int x2, .int x3, .int (I 75 x2.toNatClampNeg), .int (I 76 x2.toNatClampNeg), .null] [.int p8]
    refine kx_go 3 (pc' := 53) (lv' := [.ref 72, .ref 1, .int x2, .int x3, .int (I 75 x2.toNatClampNeg), .int (I 76 x2.toNatClampNeg), .int p8]) (st' := [.ref 72]) hX ok_Spans_widthByTest rfl ?_
    refine kx_getp hX ok_Spans_widthByTest rfl (q := 75) (nx := 56) rfl ?_
    refine kx_go 2 (pc' := 59) (lv' := [.ref 72, .ref 1, .int x2, .int x3, .int (I 75 x2.toNatClampNeg), .int (I 76 x2.toNatClampNeg), .int p8]) (st' := [.int (I 75 x2.toNatClampNeg), .int x2, .ref 75]) hX ok_Spans_widthByTest rfl ?_
    refine kx_iastc hX ok_Spans_widthByTest (w := 8) (nx := 60) rfl b1 (k := x2.toNatClampNeg) rfl ?_
    refine kx_lt (Q := fun J9 => kW G X m_Spans_widthByTest C J9 0 0 60 [.ref 72, .ref 1, .int x2, .int x3, .int (I 75 x2.toNatClampNeg), .int (I 76 x2.toNatClampNeg), .int p8] []) (fun J9 eJ9 => ?_)
    refine kx_go 1 (pc' := 61) (lv' := [.ref 72, .ref 1, .int x2, .int x3, .int (I 75 x2.toNatClampNeg), .int (I 76 x2.toNatClampNeg), .int p8]) (st' := [.ref 72]) hX ok_Spans_widthByTest rfl ?_
    refine kx_getp hX ok_Spans_widthByTest rfl (q := 76) (nx := 64) rfl ?_
    refine kx_go 2 (pc' := 67) (lv' := [.ref 72, .ref 1, .int x2, .int x3, .int (I 75 x2.toNatClampNeg), .int (I 76 x2.toNatClampNeg), .int p8]) (st' := [.int (I 76 x2.toNatClampNeg), .int x2, .ref 76]) hX ok_Spans_widthByTest rfl ?_
    refine kx_iastc hX ok_Spans_widthByTest (w := 8) (nx := 68) rfl b1 (k := x2.toNatClampNeg) rfl ?_
    refine kx_lt (Q := fun J10 => kW G X m_Spans_widthByTest C J10 0 0 68 [.ref 72, .ref 1, .int x2, .int x3, .int (I 75 x2.toNatClampNeg), .int (I 76 x2.toNatClampNeg), .int p8] []) (fun J10 eJ10 => ?_)
    refine kx_go 1 (pc' := 70) (lv' := [.ref 72, .ref 1, .int x2, .int x3, .int (I 75 x2.toNatClampNeg), .int (I 76 x2.toNatClampNeg), .int p8]) (st' := [.int p8]) hX ok_Spans_widthByTest rfl ?_
    intro h; have h := Option.some.inj h; subst h
    exact kx_iret hX hE ok_Spans_widthByTest (nx := 71) rfl rfl ⟨Nat.le_of_ble_eq_true rfl, Nat.le_of_ble_eq_true rfl⟩
def M_H_test (C : HC) (I : HI) (x1 : Int32) (x2 : Int32) : Option (Int32 × HI) := if (M_Wall_hasStroke I x1) = (0 : Int32) then (Option.bind (M_H_error I (1 : Int32)) fun p2 => some (p2.1, p2.2)) else (if (M_Wall_within x2 (9999 : Int32)) = (0 : Int32) then (Option.bind (M_H_error I (1 : Int32)) fun p4 => some (p4.1, p4.2)) else (Option.bind (M_Spans_load C I) fun p5 => Option.bind (M_Spans_widthByTest p5 x1 x2) fun p6 => if (0 : Int32) ≤ p6.1 then (some (p6.1, p6.2)) else (Option.bind (M_H_error p6.2 (2 : Int32)) fun p8 => some (p8.1, p8.2))))
theorem s_H_test {G : xG} {d : Nat} (hd : 6 ≤ d) (C : HC) (I : HI) (x1 : Int32) (x2 : Int32)  (r : Int32 × HI) : M_H_test C I x1 x2 = some r → kM G d m_H_test [.ref 0, .int x1, .int x2] C I 0 0 (some (.int r.1)) C r.2 := by
  unfold M_H_test
  refine kM.of (by decide +kernel) (Nat.le_of_ble_eq_true rfl) (lv := [.ref 0, .int x1, .int x2, .null]) rfl (fun X hX hE => ?_)
  refine kx_go 1 (pc' := 1) (lv' := [.ref 0, .int x1, .int x2, .null]) (st' := [.ref 0]) hX ok_H_test rfl ?_
  refine kx_getp hX ok_H_test rfl (q := 1) (nx := 4) rfl ?_
  refine kx_go 1 (pc' := 5) (lv' := [.ref 0, .int x1, .int x2, .null]) (st' := [.int x1, .ref 1]) hX ok_H_test rfl ?_
  refine kx_V (r := 1) (as := [.int x1]) (by decide) hX ok_H_test (nx := 8) rfl l_H_71 (by decide) rfl (fun _ => s_Wall_hasStroke (G := G) (d := 0) (Nat.le_refl _) C I x1 _ rfl) (by omega) rfl (rest := []) rfl (Nat.le_of_ble_eq_true rfl) ⟨Nat.le_of_ble_eq_true rfl, Nat.le_of_ble_eq_true rfl⟩ ?_
  show _ → kW G X m_H_test C I 0 0 8 [.ref 0, .int x1, .int x2, .null] [.int (M_Wall_hasStroke I x1)]
  refine kx_go 1 (pc' := if (M_Wall_hasStroke I x1) = (0 : Int32) then 21 else 11) (lv' := [.ref 0, .int x1, .int x2, .null]) (st' := []) hX ok_H_test rfl ?_
  refine kx_ite (fun c1 => ?_) (fun c1 => ?_)
  · refine kx_go 2 (pc' := 23) (lv' := [.ref 0, .int x1, .int x2, .null]) (st' := [.int (1 : Int32), .ref 0]) hX ok_H_test rfl ?_
    refine kx_bind (fun p2 hp2 => ?_)
    refine kx_V (r := 0) (as := [.int (1 : Int32)]) (by decide) hX ok_H_test (nx := 26) rfl l_H_60 (by decide) rfl (fun _ => s_H_error (G := G) (d := 0) (Nat.le_refl _) C I (1 : Int32) p2 hp2) (by omega) rfl (rest := []) rfl (Nat.le_of_ble_eq_true rfl) ⟨Nat.le_of_ble_eq_true rfl, Nat.le_of_ble_eq_true rfl⟩ ?_
    show _ → kW G X m_H_test C p2.2 0 0 26 [.ref 0, .int x1, .int x2, .null] [.int p2.1]
    intro h; have h := Option.some.inj h; subst h
    exact kx_iret hX hE ok_H_test (nx := 27) rfl rfl ⟨Nat.le_of_ble_eq_true rfl, Nat.le_of_ble_eq_true rfl⟩
  · refine kx_go 2 (pc' := 15) (lv' := [.ref 0, .int x1, .int x2, .null]) (st' := [.int (9999 : Int32), .int x2]) hX ok_H_test rfl ?_
    refine kx_S (as := [.int x2, .int (9999 : Int32)]) hX ok_H_test (nx := 18) rfl l_H_56 (fun _ => s_Wall_within (G := G) (d := 0) (Nat.le_refl _) C I x2 (9999 : Int32) _ rfl) (by omega) rfl (rest := []) rfl (Nat.le_of_ble_eq_true rfl) ⟨Nat.le_of_ble_eq_true rfl, Nat.le_of_ble_eq_true rfl⟩ ?_
    show _ → kW G X m_H_test C I 0 0 18 [.ref 0, .int x1, .int x2, .null] [.int (M_Wall_within x2 (9999 : Int32))]
    refine kx_go 1 (pc' := if (M_Wall_within x2 (9999 : Int32)) = (0 : Int32) then 21 else 27) (lv' := [.ref 0, .int x1, .int x2, .null]) (st' := []) hX ok_H_test rfl ?_
    refine kx_ite (fun c3 => ?_) (fun c3 => ?_)
    · refine kx_go 2 (pc' := 23) (lv' := [.ref 0, .int x1, .int x2, .null]) (st' := [.int (1 : Int32), .ref 0]) hX ok_H_test rfl ?_
      refine kx_bind (fun p4 hp4 => ?_)
      refine kx_V (r := 0) (as := [.int (1 : Int32)]) (by decide) hX ok_H_test (nx := 26) rfl l_H_60 (by decide) rfl (fun _ => s_H_error (G := G) (d := 0) (Nat.le_refl _) C I (1 : Int32) p4 hp4) (by omega) rfl (rest := []) rfl (Nat.le_of_ble_eq_true rfl) ⟨Nat.le_of_ble_eq_true rfl, Nat.le_of_ble_eq_true rfl⟩ ?_
      show _ → kW G X m_H_test C p4.2 0 0 26 [.ref 0, .int x1, .int x2, .null] [.int p4.1]
      intro h; have h := Option.some.inj h; subst h
      exact kx_iret hX hE ok_H_test (nx := 27) rfl rfl ⟨Nat.le_of_ble_eq_true rfl, Nat.le_of_ble_eq_true rfl⟩
    · refine kx_go 1 (pc' := 28) (lv' := [.ref 0, .int x1, .int x2, .null]) (st' := [.ref 0]) hX ok_H_test rfl ?_
      refine kx_getp hX ok_H_test rfl (q := 72) (nx := 31) rfl ?_
      refine kx_go 1 (pc' := 32) (lv' := [.ref 0, .int x1, .int x2, .null]) (st' := [.ref 0, .ref 72]) hX ok_H_test rfl ?_
      refine kx_getp hX ok_H_test rfl (q := 1) (nx := 35) rfl ?_
      refine kx_bind (fun p5 hp5 => ?_)
      refine kx_V (r := 72) (as := [.ref 1]) (by decide) hX ok_H_test (nx := 38) rfl l_H_176 (by decide) rfl (fun _ => s_Spans_load (G := G) (d := 5) (Nat.le_refl _) C I  p5 hp5) (by omega) rfl (rest := []) rfl (Nat.le_of_ble_eq_true rfl) ⟨Nat.le_of_ble_eq_true rfl, Nat.le_of_ble_eq_true rfl⟩ ?_
      show _ → kW G X m_H_test C p5 0 0 38 [.ref 0, .int x1, .int x2, .null] []
      refine kx_go 1 (pc' := 39) (lv' := [.ref 0, .int x1, .int x2, .null]) (st' := [.ref 0]) hX ok_H_test rfl ?_
      refine kx_getp hX ok_H_test rfl (q := 72) (nx := 42) rfl ?_
      refine kx_go 1 (pc' := 43) (lv' := [.ref 0, .int x1, .int x2, .null]) (st' := [.ref 0, .ref 72]) hX ok_H_test rfl ?_
      refine kx_getp hX ok_H_test rfl (q := 1) (nx := 46) rfl ?_
      refine kx_go 2 (pc' := 48) (lv' := [.ref 0, .int x1, .int x2, .null]) (st' := [.int x2, .int x1, .ref 1, .ref 72]) hX ok_H_test rfl ?_
      refine kx_bind (fun p6 hp6 => ?_)
      refine kx_V (r := 72) (as := [.ref 1, .int x1, .int x2]) (by decide) hX ok_H_test (nx := 51) rfl l_H_189 (by decide) rfl (fun _ => s_Spans_widthByTest (G := G) (d := 2) (Nat.le_refl _) C p5 x1 x2 p6 hp6) (by omega) rfl (rest := []) rfl (Nat.le_of_ble_eq_true rfl) ⟨Nat.le_of_ble_eq_true rfl, Nat.le_of_ble_eq_true rfl⟩ ?_
      show _ → kW G X m_H_test C p6.2 0 0 51 [.ref 0, .int x1, .int x2, .null] [.int p6.1]
      refine kx_go 3 (pc' := if (0 : Int32) ≤ p6.1 then 64 else 56) (lv' := [.ref 0, .int x1, .int x2, .int p6.1]) (st' := []) hX ok_H_test rfl ?_
      refine kx_ite (fun c7 => ?_) (fun c7 => ?_)
      · refine kx_go 1 (pc' := 65) (lv' := [.ref 0, .int x1, .int x2, .int p6.1]) (st' := [.int p6.1]) hX ok_H_test rfl ?_
        intro h; have h := Option.some.inj h; subst h
        exact kx_iret hX hE ok_H_test (nx := 66) rfl rfl ⟨Nat.le_of_ble_eq_true rfl, Nat.le_of_ble_eq_true rfl⟩
      · refine kx_go 2 (pc' := 58) (lv' := [.ref 0, .int x1, .int x2, .int p6.1]) (st' := [.int (2 : Int32), .ref 0]) hX ok_H_test rfl ?_
        refine kx_bind (fun p8 hp8 => ?_)
        refine kx_V (r := 0) (as := [.int (2 : Int32)]) (by decide) hX ok_H_test (nx := 61) rfl l_H_60 (by decide) rfl (fun _ => s_H_error (G := G) (d := 0) (Nat.le_refl _) C p6.2 (2 : Int32) p8 hp8) (by omega) rfl (rest := []) rfl (Nat.le_of_ble_eq_true rfl) ⟨Nat.le_of_ble_eq_true rfl, Nat.le_of_ble_eq_true rfl⟩ ?_
        show _ → kW G X m_H_test C p8.2 0 0 61 [.ref 0, .int x1, .int x2, .int p6.1] [.int p8.1]
        refine kx_go 1 (pc' := 65) (lv' := [.ref 0, .int x1, .int x2, .int p6.1]) (st' := [.int p8.1]) hX ok_H_test rfl ?_
        intro h; have h := Option.some.inj h; subst h
        exact kx_iret hX hE ok_H_test (nx := 66) rfl rfl ⟨Nat.le_of_ble_eq_true rfl, Nat.le_of_ble_eq_true rfl⟩
def M_Spans_worstOf (I : HI) (x2 : Int32) : Option (Int32 × HI) := grd (bnd x2 8) (Option.bind (M_Spans_widthByTest I x2 (I 77 x2.toNatClampNeg)) fun p2 => Option.bind (M_Spans_widthByTest p2.2 x2 (((I 77 x2.toNatClampNeg) + (I 78 x2.toNatClampNeg)) / (2 : Int32))) fun p3 => Option.bind (M_Spans_widthByTest p3.2 x2 (I 78 x2.toNatClampNeg)) fun p4 => some ((mmax (mmax p2.1 p3.1) p4.1), p4.2))
theorem s_Spans_worstOf {G : xG} {d : Nat} (hd : 3 ≤ d) (C : HC) (I : HI) (x2 : Int32)  (r : Int32 × HI) : M_Spans_worstOf I x2 = some r → kM G d m_Spans_worstOf [.ref 72, .ref 1, .int x2] C I 0 0 (some (.int r.1)) C r.2 := by
  unfold M_Spans_worstOf
  refine kM.of (by decide +kernel) (Nat.le_of_ble_eq_true rfl) (lv := [.ref 72, .ref 1, .int x2, .null, .null, .null]) rfl (fun X hX hE => ?_)
  refine kx_go 1 (pc' := 1) (lv' := [.ref 72, .ref 1, .int x2, .null, .null, .null]) (st' := [.ref 72]) hX ok_Spans_worstOf rfl ?_
  refine kx_getp hX ok_Spans_worstOf rfl (q := 77) (nx := 4) rfl ?_
  refine kx_go 1 (pc' := 5) (lv' := [.ref 72, .ref 1, .int x2, .null, .null, .null]) (st' := [.int x2, .ref 77]) hX ok_Spans_worstOf rfl ?_
  refine kx_iald hX ok_Spans_worstOf (w := 8) (nx := 6) rfl (fun b1 => ?_)
  refine kx_go 2 (pc' := 8) (lv' := [.ref 72, .ref 1, .int x2, .int (I 77 x2.toNatClampNeg), .null, .null]) (st' := [.ref 72]) hX ok_Spans_worstOf rfl ?_
  refine kx_getp hX ok_Spans_worstOf rfl (q := 78) (nx := 11) rfl ?_
  refine kx_go 1 (pc' := 12) (lv' := [.ref 72, .ref 1, .int x2, .int (I 77 x2.toNatClampNeg), .null, .null]) (st' := [.int x2, .ref 78]) hX ok_Spans_worstOf rfl ?_
  refine kx_ialdc hX ok_Spans_worstOf (w := 8) (nx := 13) rfl b1 (k := x2.toNatClampNeg) rfl ?_
  refine kx_go 5 (pc' := 19) (lv' := [.ref 72, .ref 1, .int x2, .int (I 77 x2.toNatClampNeg), .int (I 78 x2.toNatClampNeg), .null]) (st' := [.int (I 77 x2.toNatClampNeg), .int x2, .ref 1, .ref 72]) hX ok_Spans_worstOf rfl ?_
  refine kx_bind (fun p2 hp2 => ?_)
  refine kx_V (r := 72) (as := [.ref 1, .int x2, .int (I 77 x2.toNatClampNeg)]) (by decide) hX ok_Spans_worstOf (nx := 22) rfl l_Spans_76 (by decide) rfl (fun _ => s_Spans_widthByTest (G := G) (d := 2) (Nat.le_refl _) C I x2 (I 77 x2.toNatClampNeg) p2 hp2) (by omega) rfl (rest := []) rfl (Nat.le_of_ble_eq_true rfl) ⟨Nat.le_of_ble_eq_true rfl, Nat.le_of_ble_eq_true rfl⟩ ?_
  show _ → kW G X m_Spans_worstOf C p2.2 0 0 22 [.ref 72, .ref 1, .int x2, .int (I 77 x2.toNatClampNeg), .int (I 78 x2.toNatClampNeg), .null] [.int p2.1]
  refine kx_go 9 (pc' := 34) (lv' := [.ref 72, .ref 1, .int x2, .int (I 77 x2.toNatClampNeg), .int (I 78 x2.toNatClampNeg), .int p2.1]) (st' := [.int (2 : Int32), .int ((I 77 x2.toNatClampNeg) + (I 78 x2.toNatClampNeg)), .int x2, .ref 1, .ref 72, .int p2.1]) hX ok_Spans_worstOf rfl ?_
  refine kx_idivc hX ok_Spans_worstOf (nx := 35) rfl (by decide) ?_
  refine kx_bind (fun p3 hp3 => ?_)
  refine kx_V (r := 72) (as := [.ref 1, .int x2, .int (((I 77 x2.toNatClampNeg) + (I 78 x2.toNatClampNeg)) / (2 : Int32))]) (by decide) hX ok_Spans_worstOf (nx := 38) rfl l_Spans_76 (by decide) rfl (fun _ => s_Spans_widthByTest (G := G) (d := 2) (Nat.le_refl _) C p2.2 x2 (((I 77 x2.toNatClampNeg) + (I 78 x2.toNatClampNeg)) / (2 : Int32)) p3 hp3) (by omega) rfl (rest := [.int p2.1]) rfl (Nat.le_of_ble_eq_true rfl) ⟨Nat.le_of_ble_eq_true rfl, Nat.le_of_ble_eq_true rfl⟩ ?_
  show _ → kW G X m_Spans_worstOf C p3.2 0 0 38 [.ref 72, .ref 1, .int x2, .int (I 77 x2.toNatClampNeg), .int (I 78 x2.toNatClampNeg), .int p2.1] [.int p3.1, .int p2.1]
  refine kx_max (d := d) (by omega) ⟨Nat.le_of_ble_eq_true rfl, Nat.le_of_ble_eq_true rfl⟩ hX ok_Spans_worstOf (nx := 41) rfl l_Spans_80 (Nat.le_of_ble_eq_true rfl) ?_
  refine kx_go 6 (pc' := 50) (lv' := [.ref 72, .ref 1, .int x2, .int (I 77 x2.toNatClampNeg), .int (I 78 x2.toNatClampNeg), .int (mmax p2.1 p3.1)]) (st' := [.int (I 78 x2.toNatClampNeg), .int x2, .ref 1, .ref 72, .int (mmax p2.1 p3.1)]) hX ok_Spans_worstOf rfl ?_
  refine kx_bind (fun p4 hp4 => ?_)
  refine kx_V (r := 72) (as := [.ref 1, .int x2, .int (I 78 x2.toNatClampNeg)]) (by decide) hX ok_Spans_worstOf (nx := 53) rfl l_Spans_76 (by decide) rfl (fun _ => s_Spans_widthByTest (G := G) (d := 2) (Nat.le_refl _) C p3.2 x2 (I 78 x2.toNatClampNeg) p4 hp4) (by omega) rfl (rest := [.int (mmax p2.1 p3.1)]) rfl (Nat.le_of_ble_eq_true rfl) ⟨Nat.le_of_ble_eq_true rfl, Nat.le_of_ble_eq_true rfl⟩ ?_
  show _ → kW G X m_Spans_worstOf C p4.2 0 0 53 [.ref 72, .ref 1, .int x2, .int (I 77 x2.toNatClampNeg), .int (I 78 x2.toNatClampNeg), .int (mmax p2.1 p3.1)] [.int p4.1, .int (mmax p2.1 p3.1)]
  refine kx_max (d := d) (by omega) ⟨Nat.le_of_ble_eq_true rfl, Nat.le_of_ble_eq_true rfl⟩ hX ok_Spans_worstOf (nx := 56) rfl l_Spans_80 (Nat.le_of_ble_eq_true rfl) ?_
  intro h; have h := Option.some.inj h; subst h
  exact kx_iret hX hE ok_Spans_worstOf (nx := 57) rfl rfl ⟨Nat.le_of_ble_eq_true rfl, Nat.le_of_ble_eq_true rfl⟩
def L_Spans_findNext_12  : Nat → Int32 → HI → Option (HI)
  | 0, _, _ => none
  | f + 1, x2, I => if (I 1 1) ≤ x2 then (some I) else (grd (bnd x2 8) (lt (xu I 77 x2.toNatClampNeg (I 73 x2.toNatClampNeg)) fun J3 => lt (xu J3 78 x2.toNatClampNeg (J3 74 x2.toNatClampNeg)) fun J4 => L_Spans_findNext_12 f (x2 + (1 : Int32)) J4))
theorem s_L_Spans_findNext_12 {G : xG} {X : xC} {d : Nat} (hd : 4 ≤ d) (hX : xAmb G X m_Spans_findNext d 0 0)  (C : HC) : ∀ (f : Nat) (x2 : Int32) (I : HI) (r : HI), (kW G X m_Spans_findNext C r 0 0 50 [.ref 72, .ref 1, .null, .null] []) → L_Spans_findNext_12 f x2 I = some r → kW G X m_Spans_findNext C I 0 0 12 [.ref 72, .ref 1, .int x2, .null] [] := by
  intro f
  induction f with
  | zero => intro x2 I r hk h; rw [L_Spans_findNext_12] at h; cases h
  | succ f ih =>
    intro x2 I r hk
    rw [L_Spans_findNext_12]
    refine kx_go 2 (pc' := 14) (lv' := [.ref 72, .ref 1, .int x2, .null]) (st' := [.ref 1, .int x2]) hX ok_Spans_findNext rfl ?_
    refine kx_geti hX ok_Spans_findNext rfl (k := 1) (nx := 17) rfl ?_
    refine kx_go 1 (pc' := if (I 1 1) ≤ x2 then 50 else 20) (lv' := [.ref 72, .ref 1, .int x2, .null]) (st' := []) hX ok_Spans_findNext rfl ?_
    refine kx_ite (fun c1 => ?_) (fun c1 => ?_)
    · refine kx_weak (lv' := [.ref 72, .ref 1, .null, .null]) (by simp [xsub]) ?_
      intro h; have h := Option.some.inj h; subst h
      exact hk
    · refine kx_go 1 (pc' := 21) (lv' := [.ref 72, .ref 1, .int x2, .null]) (st' := [.ref 72]) hX ok_Spans_findNext rfl ?_
      refine kx_getp hX ok_Spans_findNext rfl (q := 77) (nx := 24) rfl ?_
      refine kx_go 2 (pc' := 26) (lv' := [.ref 72, .ref 1, .int x2, .null]) (st' := [.ref 72, .int x2, .ref 77]) hX ok_Spans_findNext rfl ?_
      refine kx_getp hX ok_Spans_findNext rfl (q := 73) (nx := 29) rfl ?_
      refine kx_go 1 (pc' := 30) (lv' := [.ref 72, .ref 1, .int x2, .null]) (st' := [.int x2, .ref 73, .int x2, .ref 77]) hX ok_Spans_findNext rfl ?_
      refine kx_iald hX ok_Spans_findNext (w := 8) (nx := 31) rfl (fun b2 => ?_)
      refine kx_iastc hX ok_Spans_findNext (w := 8) (nx := 32) rfl b2 (k := x2.toNatClampNeg) rfl ?_
      refine kx_lt (Q := fun J3 => kW G X m_Spans_findNext C J3 0 0 32 [.ref 72, .ref 1, .int x2, .null] []) (fun J3 eJ3 => ?_)
      refine kx_go 1 (pc' := 33) (lv' := [.ref 72, .ref 1, .int x2, .null]) (st' := [.ref 72]) hX ok_Spans_findNext rfl ?_
      refine kx_getp hX ok_Spans_findNext rfl (q := 78) (nx := 36) rfl ?_
      refine kx_go 2 (pc' := 38) (lv' := [.ref 72, .ref 1, .int x2, .null]) (st' := [.ref 72, .int x2, .ref 78]) hX ok_Spans_findNext rfl ?_
      refine kx_getp hX ok_Spans_findNext rfl (q := 74) (nx := 41) rfl ?_
      refine kx_go 1 (pc' := 42) (lv' := [.ref 72, .ref 1, .int x2, .null]) (st' := [.int x2, .ref 74, .int x2, .ref 78]) hX ok_Spans_findNext rfl ?_
      refine kx_ialdc hX ok_Spans_findNext (w := 8) (nx := 43) rfl b2 (k := x2.toNatClampNeg) rfl ?_
      refine kx_iastc hX ok_Spans_findNext (w := 8) (nx := 44) rfl b2 (k := x2.toNatClampNeg) rfl ?_
      refine kx_lt (Q := fun J4 => kW G X m_Spans_findNext C J4 0 0 44 [.ref 72, .ref 1, .int x2, .null] []) (fun J4 eJ4 => ?_)
      refine kx_go 2 (pc' := 12) (lv' := [.ref 72, .ref 1, .int (x2 + (1 : Int32)), .null]) (st' := []) hX ok_Spans_findNext rfl ?_
      exact fun h => ih (x2 + (1 : Int32)) J4 r hk h
def L_Spans_findNext_67  : Nat → Int32 → HI → Option (HI)
  | 0, _, _ => none
  | f + 1, x2, I => if (I 1 1) ≤ x2 then (some I) else (Option.bind (M_Spans_worstOf I x2) fun p2 => if (p2.2 72 3) ≤ p2.1 then (L_Spans_findNext_67 f (x2 + (1 : Int32)) p2.2) else (lt (xu p2.2 72 2 x2) fun J4 => lt (xu J4 72 3 p2.1) fun J5 => L_Spans_findNext_67 f (x2 + (1 : Int32)) J5))
theorem s_L_Spans_findNext_67 {G : xG} {X : xC} {d : Nat} (hd : 4 ≤ d) (hX : xAmb G X m_Spans_findNext d 0 0)  (C : HC) : ∀ (f : Nat) (x2 : Int32) (I : HI) (r : HI), (kW G X m_Spans_findNext C r 0 0 106 [.null, .null, .null, .null] []) → L_Spans_findNext_67 f x2 I = some r → kW G X m_Spans_findNext C I 0 0 67 [.ref 72, .ref 1, .int x2, .null] [] := by
  intro f
  induction f with
  | zero => intro x2 I r hk h; rw [L_Spans_findNext_67] at h; cases h
  | succ f ih =>
    intro x2 I r hk
    rw [L_Spans_findNext_67]
    refine kx_go 2 (pc' := 69) (lv' := [.ref 72, .ref 1, .int x2, .null]) (st' := [.ref 1, .int x2]) hX ok_Spans_findNext rfl ?_
    refine kx_geti hX ok_Spans_findNext rfl (k := 1) (nx := 72) rfl ?_
    refine kx_go 1 (pc' := if (I 1 1) ≤ x2 then 106 else 75) (lv' := [.ref 72, .ref 1, .int x2, .null]) (st' := []) hX ok_Spans_findNext rfl ?_
    refine kx_ite (fun c1 => ?_) (fun c1 => ?_)
    · refine kx_weak (lv' := [.null, .null, .null, .null]) (by simp [xsub]) ?_
      intro h; have h := Option.some.inj h; subst h
      exact hk
    · refine kx_go 3 (pc' := 78) (lv' := [.ref 72, .ref 1, .int x2, .null]) (st' := [.int x2, .ref 1, .ref 72]) hX ok_Spans_findNext rfl ?_
      refine kx_bind (fun p2 hp2 => ?_)
      refine kx_V (r := 72) (as := [.ref 1, .int x2]) (by decide) hX ok_Spans_findNext (nx := 81) rfl l_Spans_69 (by decide) rfl (fun _ => s_Spans_worstOf (G := G) (d := 3) (Nat.le_refl _) C I x2 p2 hp2) (by omega) rfl (rest := []) rfl (Nat.le_of_ble_eq_true rfl) ⟨Nat.le_of_ble_eq_true rfl, Nat.le_of_ble_eq_true rfl⟩ ?_
      show _ → kW G X m_Spans_findNext C p2.2 0 0 81 [.ref 72, .ref 1, .int x2, .null] [.int p2.1]
      refine kx_go 3 (pc' := 84) (lv' := [.ref 72, .ref 1, .int x2, .int p2.1]) (st' := [.ref 72, .int p2.1]) hX ok_Spans_findNext rfl ?_
      refine kx_geti hX ok_Spans_findNext rfl (k := 3) (nx := 87) rfl ?_
      refine kx_go 1 (pc' := if (p2.2 72 3) ≤ p2.1 then 100 else 90) (lv' := [.ref 72, .ref 1, .int x2, .int p2.1]) (st' := []) hX ok_Spans_findNext rfl ?_
      refine kx_ite (fun c3 => ?_) (fun c3 => ?_)
      · refine kx_go 2 (pc' := 67) (lv' := [.ref 72, .ref 1, .int (x2 + (1 : Int32)), .int p2.1]) (st' := []) hX ok_Spans_findNext rfl ?_
        refine kx_weak (lv' := [.ref 72, .ref 1, .int (x2 + (1 : Int32)), .null]) (by simp [xsub]) ?_
        exact fun h => ih (x2 + (1 : Int32)) p2.2 r hk h
      · refine kx_go 2 (pc' := 92) (lv' := [.ref 72, .ref 1, .int x2, .int p2.1]) (st' := [.int x2, .ref 72]) hX ok_Spans_findNext rfl ?_
        refine kx_puti hX ok_Spans_findNext rfl (k := 2) (nx := 95) rfl rfl ?_
        refine kx_lt (Q := fun J4 => kW G X m_Spans_findNext C J4 0 0 95 [.ref 72, .ref 1, .int x2, .int p2.1] []) (fun J4 eJ4 => ?_)
        refine kx_go 2 (pc' := 97) (lv' := [.ref 72, .ref 1, .int x2, .int p2.1]) (st' := [.int p2.1, .ref 72]) hX ok_Spans_findNext rfl ?_
        refine kx_puti hX ok_Spans_findNext rfl (k := 3) (nx := 100) rfl rfl ?_
        refine kx_lt (Q := fun J5 => kW G X m_Spans_findNext C J5 0 0 100 [.ref 72, .ref 1, .int x2, .int p2.1] []) (fun J5 eJ5 => ?_)
        refine kx_go 2 (pc' := 67) (lv' := [.ref 72, .ref 1, .int (x2 + (1 : Int32)), .int p2.1]) (st' := []) hX ok_Spans_findNext rfl ?_
        refine kx_weak (lv' := [.ref 72, .ref 1, .int (x2 + (1 : Int32)), .null]) (by simp [xsub]) ?_
        exact fun h => ih (x2 + (1 : Int32)) J5 r hk h
def M_Spans_findNext (I : HI) : Option (Int32 × HI) := Option.bind (M_Spans_settle I) fun p1 => if p1.1 = (0 : Int32) then (some ((0 : Int32), p1.2)) else (Option.bind (L_Spans_findNext_12 1000 (0 : Int32) p1.2) fun p3 => lt (xu p3 72 2 (0 : Int32)) fun J4 => Option.bind (M_Spans_worstOf J4 (0 : Int32)) fun p5 => lt (xu p5.2 72 3 p5.1) fun J6 => Option.bind (L_Spans_findNext_67 1000 (1 : Int32) J6) fun p7 => some ((1 : Int32), p7))
theorem s_Spans_findNext {G : xG} {d : Nat} (hd : 4 ≤ d) (C : HC) (I : HI)   (r : Int32 × HI) : M_Spans_findNext I = some r → kM G d m_Spans_findNext [.ref 72, .ref 1] C I 0 0 (some (.int r.1)) C r.2 := by
  unfold M_Spans_findNext
  refine kM.of (by decide +kernel) (Nat.le_of_ble_eq_true rfl) (lv := [.ref 72, .ref 1, .null, .null]) rfl (fun X hX hE => ?_)
  refine kx_go 2 (pc' := 2) (lv' := [.ref 72, .ref 1, .null, .null]) (st' := [.ref 1, .ref 72]) hX ok_Spans_findNext rfl ?_
  refine kx_bind (fun p1 hp1 => ?_)
  refine kx_V (r := 72) (as := [.ref 1]) (by decide) hX ok_Spans_findNext (nx := 5) rfl l_Spans_60 (by decide) rfl (fun _ => s_Spans_settle (G := G) (d := 1) (Nat.le_refl _) C I  p1 hp1) (by omega) rfl (rest := []) rfl (Nat.le_of_ble_eq_true rfl) ⟨Nat.le_of_ble_eq_true rfl, Nat.le_of_ble_eq_true rfl⟩ ?_
  show _ → kW G X m_Spans_findNext C p1.2 0 0 5 [.ref 72, .ref 1, .null, .null] [.int p1.1]
  refine kx_go 1 (pc' := if p1.1 = (0 : Int32) then 8 else 10) (lv' := [.ref 72, .ref 1, .null, .null]) (st' := []) hX ok_Spans_findNext rfl ?_
  refine kx_ite (fun c2 => ?_) (fun c2 => ?_)
  · refine kx_go 1 (pc' := 9) (lv' := [.ref 72, .ref 1, .null, .null]) (st' := [.int (0 : Int32)]) hX ok_Spans_findNext rfl ?_
    intro h; have h := Option.some.inj h; subst h
    exact kx_zret hX hE ok_Spans_findNext (nx := 10) rfl rfl (Or.inl rfl) ⟨Nat.le_of_ble_eq_true rfl, Nat.le_of_ble_eq_true rfl⟩
  · refine kx_go 2 (pc' := 12) (lv' := [.ref 72, .ref 1, .int (0 : Int32), .null]) (st' := []) hX ok_Spans_findNext rfl ?_
    refine kx_bind (fun p3 hp3 => ?_)
    refine kx_via (fun hk => s_L_Spans_findNext_12 (G := G) (X := X) (by omega) hX C 1000 (0 : Int32) p1.2 p3 hk hp3) ?_
    refine kx_go 2 (pc' := 52) (lv' := [.ref 72, .ref 1, .null, .null]) (st' := [.int (0 : Int32), .ref 72]) hX ok_Spans_findNext rfl ?_
    refine kx_puti hX ok_Spans_findNext rfl (k := 2) (nx := 55) rfl rfl ?_
    refine kx_lt (Q := fun J4 => kW G X m_Spans_findNext C J4 0 0 55 [.ref 72, .ref 1, .null, .null] []) (fun J4 eJ4 => ?_)
    refine kx_go 4 (pc' := 59) (lv' := [.ref 72, .ref 1, .null, .null]) (st' := [.int (0 : Int32), .ref 1, .ref 72, .ref 72]) hX ok_Spans_findNext rfl ?_
    refine kx_bind (fun p5 hp5 => ?_)
    refine kx_V (r := 72) (as := [.ref 1, .int (0 : Int32)]) (by decide) hX ok_Spans_findNext (nx := 62) rfl l_Spans_69 (by decide) rfl (fun _ => s_Spans_worstOf (G := G) (d := 3) (Nat.le_refl _) C J4 (0 : Int32) p5 hp5) (by omega) rfl (rest := [.ref 72]) rfl (Nat.le_of_ble_eq_true rfl) ⟨Nat.le_of_ble_eq_true rfl, Nat.le_of_ble_eq_true rfl⟩ ?_
    show _ → kW G X m_Spans_findNext C p5.2 0 0 62 [.ref 72, .ref 1, .null, .null] [.int p5.1, .ref 72]
    refine kx_puti hX ok_Spans_findNext rfl (k := 3) (nx := 65) rfl rfl ?_
    refine kx_lt (Q := fun J6 => kW G X m_Spans_findNext C J6 0 0 65 [.ref 72, .ref 1, .null, .null] []) (fun J6 eJ6 => ?_)
    refine kx_go 2 (pc' := 67) (lv' := [.ref 72, .ref 1, .int (1 : Int32), .null]) (st' := []) hX ok_Spans_findNext rfl ?_
    refine kx_bind (fun p7 hp7 => ?_)
    refine kx_via (fun hk => s_L_Spans_findNext_67 (G := G) (X := X) (by omega) hX C 1000 (1 : Int32) J6 p7 hk hp7) ?_
    refine kx_go 1 (pc' := 107) (lv' := [.null, .null, .null, .null]) (st' := [.int (1 : Int32)]) hX ok_Spans_findNext rfl ?_
    intro h; have h := Option.some.inj h; subst h
    exact kx_zret hX hE ok_Spans_findNext (nx := 108) rfl rfl (Or.inr rfl) ⟨Nat.le_of_ble_eq_true rfl, Nat.le_of_ble_eq_true rfl⟩
