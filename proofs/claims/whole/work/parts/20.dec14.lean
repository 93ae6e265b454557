def M_Sets_fewestTimes (I : HI) : Int32 := (I 70 0)
theorem s_Sets_fewestTimes {G : xG} {d : Nat} (hd : 0 ≤ d) (C : HC) (I : HI)   (r : Int32) : M_Sets_fewestTimes I = r → kM G d m_Sets_fewestTimes [.ref 63] C I 0 0 (some (.int r)) C I := by
  unfold M_Sets_fewestTimes
  refine kM.of (by decide +kernel) (Nat.le_of_ble_eq_true rfl) (lv := [.ref 63]) rfl (fun X hX hE => ?_)
  refine kx_go 1 (pc' := 1) (lv' := [.ref 63]) (st' := [.ref 63]) hX ok_Sets_fewestTimes rfl ?_
  refine kx_getp hX ok_Sets_fewestTimes rfl (q := 70) (nx := 4) rfl ?_
  refine kx_go 1 (pc' := 5) (lv' := [.ref 63]) (st' := [.int (0 : Int32), .ref 70]) hX ok_Sets_fewestTimes rfl ?_
  refine kx_ialdc hX ok_Sets_fewestTimes (w := 256) (nx := 6) rfl rfl (k := 0) rfl ?_
  rintro rfl
  exact kx_iret hX hE ok_Sets_fewestTimes (nx := 7) rfl rfl ⟨Nat.le_of_ble_eq_true rfl, Nat.le_of_ble_eq_true rfl⟩
def L_Sets_areAlike_2 (x1 : Int32) (I : HI) : Nat → Int32 → Option (Nat)
  | 0, _ => none
  | f + 1, x2 => if (4 : Int32) ≤ x2 then (some 1) else (grd (bnd x2 4) (if (x1 &&& ((I 68 x2.toNatClampNeg) ^^^ (-1 : Int32))) = (0 : Int32) then (some 0) else (L_Sets_areAlike_2 x1 I f (x2 + (1 : Int32)))))
theorem s_L_Sets_areAlike_2 {G : xG} {X : xC} {d : Nat} (hd : 0 ≤ d) (hX : xAmb G X m_Sets_areAlike d 0 0)  (C : HC) (x1 : Int32) (I : HI) : ∀ (f : Nat) (x2 : Int32) (r : Nat), (r = 0 → kW G X m_Sets_areAlike C I 0 0 20 [.null, .null, .null] []) → (¬ r = 0 → kW G X m_Sets_areAlike C I 0 0 28 [.null, .null, .null] []) → L_Sets_areAlike_2 x1 I f x2 = some r → kW G X m_Sets_areAlike C I 0 0 2 [.ref 63, .int x1, .int x2] [] := by
  intro f
  induction f with
  | zero => intro x2 r hk0 hk1 h; rw [L_Sets_areAlike_2] at h; cases h
  | succ f ih =>
    intro x2 r hk0 hk1
    rw [L_Sets_areAlike_2]
    refine kx_go 3 (pc' := if (4 : Int32) ≤ x2 then 28 else 7) (lv' := [.ref 63, .int x1, .int x2]) (st' := []) hX ok_Sets_areAlike rfl ?_
    refine kx_ite (fun c1 => ?_) (fun c1 => ?_)
    · refine kx_weak (lv' := [.null, .null, .null]) (by simp [xsub]) ?_
      intro h; have h := Option.some.inj h; subst h
      exact hk1 (show ¬ (1 : Nat) = 0 by decide)
    · refine kx_go 2 (pc' := 9) (lv' := [.ref 63, .int x1, .int x2]) (st' := [.ref 63, .int x1]) hX ok_Sets_areAlike rfl ?_
      refine kx_getp hX ok_Sets_areAlike rfl (q := 68) (nx := 12) rfl ?_
      refine kx_go 1 (pc' := 13) (lv' := [.ref 63, .int x1, .int x2]) (st' := [.int x2, .ref 68, .int x1]) hX ok_Sets_areAlike rfl ?_
      refine kx_iald hX ok_Sets_areAlike (w := 4) (nx := 14) rfl (fun b2 => ?_)
      refine kx_go 4 (pc' := if (x1 &&& ((I 68 x2.toNatClampNeg) ^^^ (-1 : Int32))) = (0 : Int32) then 20 else 22) (lv' := [.ref 63, .int x1, .int x2]) (st' := []) hX ok_Sets_areAlike rfl ?_
      refine kx_ite (fun c3 => ?_) (fun c3 => ?_)
      · refine kx_weak (lv' := [.null, .null, .null]) (by simp [xsub]) ?_
        intro h; have h := Option.some.inj h; subst h
        exact hk0 rfl
      · refine kx_go 2 (pc' := 2) (lv' := [.ref 63, .int x1, .int (x2 + (1 : Int32))]) (st' := []) hX ok_Sets_areAlike rfl ?_
        exact fun h => ih (x2 + (1 : Int32)) r hk0 hk1 h
def M_Sets_areAlike (I : HI) (x1 : Int32) : Option (Int32) := Option.bind (L_Sets_areAlike_2 x1 I 1000 (0 : Int32)) fun p1 => if p1 = 0 then (some (1 : Int32)) else (some (0 : Int32))
theorem s_Sets_areAlike {G : xG} {d : Nat} (hd : 0 ≤ d) (C : HC) (I : HI) (x1 : Int32)  (r : Int32) : M_Sets_areAlike I x1 = some r → kM G d m_Sets_areAlike [.ref 63, .int x1] C I 0 0 (some (.int r)) C I := by
  unfold M_Sets_areAlike
  refine kM.of (by decide +kernel) (Nat.le_of_ble_eq_true rfl) (lv := [.ref 63, .int x1, .null]) rfl (fun X hX hE => ?_)
  refine kx_go 2 (pc' := 2) (lv' := [.ref 63, .int x1, .int (0 : Int32)]) (st' := []) hX ok_Sets_areAlike rfl ?_
  refine kx_bind (fun p1 hp1 => ?_)
  refine kx_via2 (fun hk0 hk1 => s_L_Sets_areAlike_2 (G := G) (X := X) (by omega) hX C x1 I 1000 (0 : Int32) p1 hk0 hk1 hp1) (fun _ => ?_) (fun _ => ?_)
  · refine kx_go 1 (pc' := 21) (lv' := [.null, .null, .null]) (st' := [.int (1 : Int32)]) hX ok_Sets_areAlike rfl ?_
    intro h; have h := Option.some.inj h; subst h
    exact kx_zret hX hE ok_Sets_areAlike (nx := 22) rfl rfl (Or.inr rfl) ⟨Nat.le_of_ble_eq_true rfl, Nat.le_of_ble_eq_true rfl⟩
  · refine kx_go 1 (pc' := 29) (lv' := [.null, .null, .null]) (st' := [.int (0 : Int32)]) hX ok_Sets_areAlike rfl ?_
    intro h; have h := Option.some.inj h; subst h
    exact kx_zret hX hE ok_Sets_areAlike (nx := 30) rfl rfl (Or.inl rfl) ⟨Nat.le_of_ble_eq_true rfl, Nat.le_of_ble_eq_true rfl⟩
def L_Sets_firstTime_18 (x2 : Int32) (x3 : Int32) (I : HI) : Nat → Int32 → Option (Nat × Int32)
  | 0, _ => none
  | f + 1, x4 => if x3 < x4 then (some (1, x4)) else (if (x4 &&& (x2 ^^^ (-1 : Int32))) = (0 : Int32) then (grd (bnd x4 256) (if ((I 70 x4.toNatClampNeg) + (1 : Int32)) = (I 70 0) then (Option.bind (M_Sets_areAlike I x4) fun p5 => if p5 = (0 : Int32) then (L_Sets_firstTime_18 x2 x3 I f (x4 + (1 : Int32))) else (some (0, x4))) else (L_Sets_firstTime_18 x2 x3 I f (x4 + (1 : Int32))))) else (L_Sets_firstTime_18 x2 x3 I f (x4 + (1 : Int32))))
theorem s_L_Sets_firstTime_18 {G : xG} {X : xC} {d : Nat} (hd : 2 ≤ d) (hX : xAmb G X m_Sets_firstTime d 0 0)  (C : HC) (x2 : Int32) (x3 : Int32) (I : HI) : ∀ (f : Nat) (x4 : Int32) (r : Nat × Int32), (r.1 = 0 → kW G X m_Sets_firstTime C I 0 0 60 [.null, .null, .null, .null, .int r.2] []) → (¬ r.1 = 0 → kW G X m_Sets_firstTime C I 0 0 69 [.null, .null, .null, .null, .null] []) → L_Sets_firstTime_18 x2 x3 I f x4 = some r → kW G X m_Sets_firstTime C I 0 0 18 [.ref 63, .null, .int x2, .int x3, .int x4] [] := by
  intro f
  induction f with
  | zero => intro x4 r hk0 hk1 h; rw [L_Sets_firstTime_18] at h; cases h
  | succ f ih =>
    intro x4 r hk0 hk1
    rw [L_Sets_firstTime_18]
    refine kx_go 3 (pc' := if x3 < x4 then 69 else 24) (lv' := [.ref 63, .null, .int x2, .int x3, .int x4]) (st' := []) hX ok_Sets_firstTime rfl ?_
    refine kx_ite (fun c1 => ?_) (fun c1 => ?_)
    · refine kx_weak (lv' := [.null, .null, .null, .null, .null]) (by simp [xsub]) ?_
      intro h; have h := Option.some.inj h; subst h
      exact hk1 (show ¬ (1 : Nat) = 0 by decide)
    · refine kx_go 6 (pc' := if (x4 &&& (x2 ^^^ (-1 : Int32))) = (0 : Int32) then 33 else 63) (lv' := [.ref 63, .null, .int x2, .int x3, .int x4]) (st' := []) hX ok_Sets_firstTime rfl ?_
      refine kx_ite (fun c2 => ?_) (fun c2 => ?_)
      · refine kx_go 1 (pc' := 34) (lv' := [.ref 63, .null, .int x2, .int x3, .int x4]) (st' := [.ref 63]) hX ok_Sets_firstTime rfl ?_
        refine kx_getp hX ok_Sets_firstTime rfl (q := 70) (nx := 37) rfl ?_
        refine kx_go 1 (pc' := 39) (lv' := [.ref 63, .null, .int x2, .int x3, .int x4]) (st' := [.int x4, .ref 70]) hX ok_Sets_firstTime rfl ?_
        refine kx_iald hX ok_Sets_firstTime (w := 256) (nx := 40) rfl (fun b3 => ?_)
        refine kx_go 3 (pc' := 43) (lv' := [.ref 63, .null, .int x2, .int x3, .int x4]) (st' := [.ref 63, .int ((I 70 x4.toNatClampNeg) + (1 : Int32))]) hX ok_Sets_firstTime rfl ?_
        refine kx_getp hX ok_Sets_firstTime rfl (q := 70) (nx := 46) rfl ?_
        refine kx_go 1 (pc' := 47) (lv' := [.ref 63, .null, .int x2, .int x3, .int x4]) (st' := [.int (0 : Int32), .ref 70, .int ((I 70 x4.toNatClampNeg) + (1 : Int32))]) hX ok_Sets_firstTime rfl ?_
        refine kx_ialdc hX ok_Sets_firstTime (w := 256) (nx := 48) rfl rfl (k := 0) rfl ?_
        refine kx_go 1 (pc' := if ((I 70 x4.toNatClampNeg) + (1 : Int32)) = (I 70 0) then 51 else 63) (lv' := [.ref 63, .null, .int x2, .int x3, .int x4]) (st' := []) hX ok_Sets_firstTime rfl ?_
        refine kx_ite (fun c4 => ?_) (fun c4 => ?_)
        · refine kx_go 2 (pc' := 54) (lv' := [.ref 63, .null, .int x2, .int x3, .int x4]) (st' := [.int x4, .ref 63]) hX ok_Sets_firstTime rfl ?_
          refine kx_bind (fun p5 hp5 => ?_)
          refine kx_V (r := 63) (as := [.int x4]) (by decide) hX ok_Sets_firstTime (nx := 57) rfl l_Sets_114 (by decide) rfl (fun _ => s_Sets_areAlike (G := G) (d := 0) (Nat.le_refl _) C I x4 p5 hp5) (by omega) rfl (rest := []) rfl (Nat.le_of_ble_eq_true rfl) ⟨Nat.le_of_ble_eq_true rfl, Nat.le_of_ble_eq_true rfl⟩ ?_
          show _ → kW G X m_Sets_firstTime C I 0 0 57 [.ref 63, .null, .int x2, .int x3, .int x4] [.int p5]
          refine kx_go 1 (pc' := if p5 = (0 : Int32) then 63 else 60) (lv' := [.ref 63, .null, .int x2, .int x3, .int x4]) (st' := []) hX ok_Sets_firstTime rfl ?_
          refine kx_ite (fun c6 => ?_) (fun c6 => ?_)
          · refine kx_go 2 (pc' := 18) (lv' := [.ref 63, .null, .int x2, .int x3, .int (x4 + (1 : Int32))]) (st' := []) hX ok_Sets_firstTime rfl ?_
            exact fun h => ih (x4 + (1 : Int32)) r hk0 hk1 h
          · refine kx_weak (lv' := [.null, .null, .null, .null, .int x4]) (by simp [xsub]) ?_
            intro h; have h := Option.some.inj h; subst h
            exact hk0 rfl
        · refine kx_go 2 (pc' := 18) (lv' := [.ref 63, .null, .int x2, .int x3, .int (x4 + (1 : Int32))]) (st' := []) hX ok_Sets_firstTime rfl ?_
          exact fun h => ih (x4 + (1 : Int32)) r hk0 hk1 h
      · refine kx_go 2 (pc' := 18) (lv' := [.ref 63, .null, .int x2, .int x3, .int (x4 + (1 : Int32))]) (st' := []) hX ok_Sets_firstTime rfl ?_
        exact fun h => ih (x4 + (1 : Int32)) r hk0 hk1 h
def M_Sets_firstTime (I : HI) : Option (Int32) := Option.bind (M_Sets_readyAfter I (0 : Int32) (I 1 1)) fun p1 => Option.bind (L_Sets_firstTime_18 p1 (M_Sets_allOf I) I 1000 (1 : Int32)) fun p2 => if p2.1 = 0 then (some p2.2) else (some (0 : Int32))
theorem s_Sets_firstTime {G : xG} {d : Nat} (hd : 2 ≤ d) (C : HC) (I : HI)   (r : Int32) : M_Sets_firstTime I = some r → kM G d m_Sets_firstTime [.ref 63, .ref 1] C I 0 0 (some (.int r)) C I := by
  unfold M_Sets_firstTime
  refine kM.of (by decide +kernel) (Nat.le_of_ble_eq_true rfl) (lv := [.ref 63, .ref 1, .null, .null, .null]) rfl (fun X hX hE => ?_)
  refine kx_go 3 (pc' := 3) (lv' := [.ref 63, .ref 1, .null, .null, .null]) (st' := [.ref 1, .int (0 : Int32), .ref 63]) hX ok_Sets_firstTime rfl ?_
  refine kx_geti hX ok_Sets_firstTime rfl (k := 1) (nx := 6) rfl ?_
  refine kx_bind (fun p1 hp1 => ?_)
  refine kx_V (r := 63) (as := [.int (0 : Int32), .int (I 1 1)]) (by decide) hX ok_Sets_firstTime (nx := 9) rfl l_Sets_64 (by decide) rfl (fun _ => s_Sets_readyAfter (G := G) (d := 1) (Nat.le_refl _) C I (0 : Int32) (I 1 1) p1 hp1) (by omega) rfl (rest := []) rfl (Nat.le_of_ble_eq_true rfl) ⟨Nat.le_of_ble_eq_true rfl, Nat.le_of_ble_eq_true rfl⟩ ?_
  show _ → kW G X m_Sets_firstTime C I 0 0 9 [.ref 63, .ref 1, .null, .null, .null] [.int p1]
  refine kx_go 2 (pc' := 11) (lv' := [.ref 63, .ref 1, .int p1, .null, .null]) (st' := [.ref 1]) hX ok_Sets_firstTime rfl ?_
  refine kx_S (as := [.ref 1]) hX ok_Sets_firstTime (nx := 14) rfl l_Sets_60 (fun _ => s_Sets_allOf (G := G) (d := 0) (Nat.le_refl _) C I  _ rfl) (by omega) rfl (rest := []) rfl (Nat.le_of_ble_eq_true rfl) ⟨Nat.le_of_ble_eq_true rfl, Nat.le_of_ble_eq_true rfl⟩ ?_
  show _ → kW G X m_Sets_firstTime C I 0 0 14 [.ref 63, .ref 1, .int p1, .null, .null] [.int (M_Sets_allOf I)]
  refine kx_go 3 (pc' := 18) (lv' := [.ref 63, .ref 1, .int p1, .int (M_Sets_allOf I), .int (1 : Int32)]) (st' := []) hX ok_Sets_firstTime rfl ?_
  refine kx_weak (lv' := [.ref 63, .null, .int p1, .int (M_Sets_allOf I), .int (1 : Int32)]) (by simp [xsub]) ?_
  refine kx_bind (fun p2 hp2 => ?_)
  refine kx_via2 (fun hk0 hk1 => s_L_Sets_firstTime_18 (G := G) (X := X) (by omega) hX C p1 (M_Sets_allOf I) I 1000 (1 : Int32) p2 hk0 hk1 hp2) (fun _ => ?_) (fun _ => ?_)
  · refine kx_go 1 (pc' := 62) (lv' := [.null, .null, .null, .null, .int p2.2]) (st' := [.int p2.2]) hX ok_Sets_firstTime rfl ?_
    intro h; have h := Option.some.inj h; subst h
    exact kx_iret hX hE ok_Sets_firstTime (nx := 63) rfl rfl ⟨Nat.le_of_ble_eq_true rfl, Nat.le_of_ble_eq_true rfl⟩
  · refine kx_go 1 (pc' := 70) (lv' := [.null, .null, .null, .null, .null]) (st' := [.int (0 : Int32)]) hX ok_Sets_firstTime rfl ?_
    intro h; have h := Option.some.inj h; subst h
    exact kx_iret hX hE ok_Sets_firstTime (nx := 71) rfl rfl ⟨Nat.le_of_ble_eq_true rfl, Nat.le_of_ble_eq_true rfl⟩
def M_H_times (C : HC) (I : HI) (x1 : Int32) : Option (Int32 × HI) := if (M_Wall_within x1 (1 : Int32)) = (0 : Int32) then (Option.bind (M_H_error I (1 : Int32)) fun p2 => some (p2.1, p2.2)) else (Option.bind (M_Sets_findTimes C I) fun p3 => if p3.1 = (0 : Int32) then (Option.bind (M_H_error p3.2 (2 : Int32)) fun p5 => some (p5.1, p5.2)) else (if x1 = (0 : Int32) then (some ((M_Sets_fewestTimes p3.2), p3.2)) else (Option.bind (M_Sets_firstTime p3.2) fun p7 => some (p7, p3.2))))
theorem s_H_times {G : xG} {d : Nat} (hd : 3 ≤ d) (C : HC) (I : HI) (x1 : Int32)  (r : Int32 × HI) : M_H_times C I x1 = some r → kM G d m_H_times [.ref 0, .int x1] C I 0 0 (some (.int r.1)) C r.2 := by
  unfold M_H_times
  refine kM.of (by decide +kernel) (Nat.le_of_ble_eq_true rfl) (lv := [.ref 0, .int x1]) rfl (fun X hX hE => ?_)
  refine kx_go 2 (pc' := 2) (lv' := [.ref 0, .int x1]) (st' := [.int (1 : Int32), .int x1]) hX ok_H_times rfl ?_
  refine kx_S (as := [.int x1, .int (1 : Int32)]) hX ok_H_times (nx := 5) rfl l_H_56 (fun _ => s_Wall_within (G := G) (d := 0) (Nat.le_refl _) C I x1 (1 : Int32) _ rfl) (by omega) rfl (rest := []) rfl (Nat.le_of_ble_eq_true rfl) ⟨Nat.le_of_ble_eq_true rfl, Nat.le_of_ble_eq_true rfl⟩ ?_
  show _ → kW G X m_H_times C I 0 0 5 [.ref 0, .int x1] [.int (M_Wall_within x1 (1 : Int32))]
  refine kx_go 1 (pc' := if (M_Wall_within x1 (1 : Int32)) = (0 : Int32) then 8 else 14) (lv' := [.ref 0, .int x1]) (st' := []) hX ok_H_times rfl ?_
  refine kx_ite (fun c1 => ?_) (fun c1 => ?_)
  · refine kx_go 2 (pc' := 10) (lv' := [.ref 0, .int x1]) (st' := [.int (1 : Int32), .ref 0]) hX ok_H_times rfl ?_
    refine kx_bind (fun p2 hp2 => ?_)
    refine kx_V (r := 0) (as := [.int (1 : Int32)]) (by decide) hX ok_H_times (nx := 13) rfl l_H_60 (by decide) rfl (fun _ => s_H_error (G := G) (d := 0) (Nat.le_refl _) C I (1 : Int32) p2 hp2) (by omega) rfl (rest := []) rfl (Nat.le_of_ble_eq_true rfl) ⟨Nat.le_of_ble_eq_true rfl, Nat.le_of_ble_eq_true rfl⟩ ?_
    show _ → kW G X m_H_times C p2.2 0 0 13 [.ref 0, .int x1] [.int p2.1]
    intro h; have h := Option.some.inj h; subst h
    exact kx_iret hX hE ok_H_times (nx := 14) rfl rfl ⟨Nat.le_of_ble_eq_true rfl, Nat.le_of_ble_eq_true rfl⟩
  · refine kx_go 1 (pc' := 15) (lv' := [.ref 0, .int x1]) (st' := [.ref 0]) hX ok_H_times rfl ?_
    refine kx_getp hX ok_H_times rfl (q := 63) (nx := 18) rfl ?_
    refine kx_go 1 (pc' := 19) (lv' := [.ref 0, .int x1]) (st' := [.ref 0, .ref 63]) hX ok_H_times rfl ?_
    refine kx_getp hX ok_H_times rfl (q := 1) (nx := 22) rfl ?_
    refine kx_bind (fun p3 hp3 => ?_)
    refine kx_V (r := 63) (as := [.ref 1]) (by decide) hX ok_H_times (nx := 25) rfl l_H_213 (by decide) rfl (fun _ => s_Sets_findTimes (G := G) (d := 2) (Nat.le_refl _) C I  p3 hp3) (by omega) rfl (rest := []) rfl (Nat.le_of_ble_eq_true rfl) ⟨Nat.le_of_ble_eq_true rfl, Nat.le_of_ble_eq_true rfl⟩ ?_
    show _ → kW G X m_H_times C p3.2 0 0 25 [.ref 0, .int x1] [.int p3.1]
    refine kx_go 1 (pc' := if p3.1 = (0 : Int32) then 28 else 34) (lv' := [.ref 0, .int x1]) (st' := []) hX ok_H_times rfl ?_
    refine kx_ite (fun c4 => ?_) (fun c4 => ?_)
    · refine kx_go 2 (pc' := 30) (lv' := [.ref 0, .int x1]) (st' := [.int (2 : Int32), .ref 0]) hX ok_H_times rfl ?_
      refine kx_bind (fun p5 hp5 => ?_)
      refine kx_V (r := 0) (as := [.int (2 : Int32)]) (by decide) hX ok_H_times (nx := 33) rfl l_H_60 (by decide) rfl (fun _ => s_H_error (G := G) (d := 0) (Nat.le_refl _) C p3.2 (2 : Int32) p5 hp5) (by omega) rfl (rest := []) rfl (Nat.le_of_ble_eq_true rfl) ⟨Nat.le_of_ble_eq_true rfl, Nat.le_of_ble_eq_true rfl⟩ ?_
      show _ → kW G X m_H_times C p5.2 0 0 33 [.ref 0, .int x1] [.int p5.1]
      intro h; have h := Option.some.inj h; subst h
      exact kx_iret hX hE ok_H_times (nx := 34) rfl rfl ⟨Nat.le_of_ble_eq_true rfl, Nat.le_of_ble_eq_true rfl⟩
    · refine kx_go 2 (pc' := if x1 = (0 : Int32) then 38 else 48) (lv' := [.ref 0, .int x1]) (st' := []) hX ok_H_times rfl ?_
      refine kx_ite (fun c6 => ?_) (fun c6 => ?_)
      · refine kx_go 1 (pc' := 39) (lv' := [.ref 0, .int x1]) (st' := [.ref 0]) hX ok_H_times rfl ?_
        refine kx_getp hX ok_H_times rfl (q := 63) (nx := 42) rfl ?_
        refine kx_V (r := 63) (as := []) (by decide) hX ok_H_times (nx := 45) rfl l_H_216 (by decide) rfl (fun _ => s_Sets_fewestTimes (G := G) (d := 0) (Nat.le_refl _) C p3.2  _ rfl) (by omega) rfl (rest := []) rfl (Nat.le_of_ble_eq_true rfl) ⟨Nat.le_of_ble_eq_true rfl, Nat.le_of_ble_eq_true rfl⟩ ?_
        show _ → kW G X m_H_times C p3.2 0 0 45 [.ref 0, .int x1] [.int (M_Sets_fewestTimes p3.2)]
        refine kx_go 1 (pc' := 59) (lv' := [.ref 0, .int x1]) (st' := [.int (M_Sets_fewestTimes p3.2)]) hX ok_H_times rfl ?_
        intro h; have h := Option.some.inj h; subst h
        exact kx_iret hX hE ok_H_times (nx := 60) rfl rfl ⟨Nat.le_of_ble_eq_true rfl, Nat.le_of_ble_eq_true rfl⟩
      · refine kx_go 1 (pc' := 49) (lv' := [.ref 0, .int x1]) (st' := [.ref 0]) hX ok_H_times rfl ?_
        refine kx_getp hX ok_H_times rfl (q := 63) (nx := 52) rfl ?_
        refine kx_go 1 (pc' := 53) (lv' := [.ref 0, .int x1]) (st' := [.ref 0, .ref 63]) hX ok_H_times rfl ?_
        refine kx_getp hX ok_H_times rfl (q := 1) (nx := 56) rfl ?_
        refine kx_bind (fun p7 hp7 => ?_)
        refine kx_V (r := 63) (as := [.ref 1]) (by decide) hX ok_H_times (nx := 59) rfl l_H_219 (by decide) rfl (fun _ => s_Sets_firstTime (G := G) (d := 2) (Nat.le_refl _) C p3.2  p7 hp7) (by omega) rfl (rest := []) rfl (Nat.le_of_ble_eq_true rfl) ⟨Nat.le_of_ble_eq_true rfl, Nat.le_of_ble_eq_true rfl⟩ ?_
        show _ → kW G X m_H_times C p3.2 0 0 59 [.ref 0, .int x1] [.int p7]
        intro h; have h := Option.some.inj h; subst h
        exact kx_iret hX hE ok_H_times (nx := 60) rfl rfl ⟨Nat.le_of_ble_eq_true rfl, Nat.le_of_ble_eq_true rfl⟩
def L_H_lamp_29 (C : HC) (x1 : Int32) (x2 : Int32) (I : HI) : Nat → Int32 → Int32 → Option (Int32)
  | 0, _, _ => none
  | f + 1, x3, x4 => if (I 1 1) ≤ x4 then (some x3) else (grd (bnd x4 8 && gS C (hT C x4.toNatClampNeg)) (if x2 < (M_Wall_far (I (hT C x4.toNatClampNeg) 2) x1) then (L_H_lamp_29 C x1 x2 I f x3 (x4 + (1 : Int32))) else (L_H_lamp_29 C x1 x2 I f (x3 ||| ((1 : Int32) <<< (x4 &&& (31 : Int32)))) (x4 + (1 : Int32)))))
theorem s_L_H_lamp_29 {G : xG} {X : xC} {d : Nat} (hd : 2 ≤ d) (hX : xAmb G X m_H_lamp d 0 0)  (C : HC) (x1 : Int32) (x2 : Int32) (I : HI) : ∀ (f : Nat) (x3 : Int32) (x4 : Int32) (r : Int32), (kW G X m_H_lamp C I 0 0 75 [.null, .null, .null, .int r, .null] []) → L_H_lamp_29 C x1 x2 I f x3 x4 = some r → kW G X m_H_lamp C I 0 0 29 [.ref 0, .int x1, .int x2, .int x3, .int x4] [] := by
  intro f
  induction f with
  | zero => intro x3 x4 r hk h; rw [L_H_lamp_29] at h; cases h
  | succ f ih =>
    intro x3 x4 r hk
    rw [L_H_lamp_29]
    refine kx_go 2 (pc' := 32) (lv' := [.ref 0, .int x1, .int x2, .int x3, .int x4]) (st' := [.ref 0, .int x4]) hX ok_H_lamp rfl ?_
    refine kx_getp hX ok_H_lamp rfl (q := 1) (nx := 35) rfl ?_
    refine kx_geti hX ok_H_lamp rfl (k := 1) (nx := 38) rfl ?_
    refine kx_go 1 (pc' := if (I 1 1) ≤ x4 then 75 else 41) (lv' := [.ref 0, .int x1, .int x2, .int x3, .int x4]) (st' := []) hX ok_H_lamp rfl ?_
    refine kx_ite (fun c1 => ?_) (fun c1 => ?_)
    · refine kx_weak (lv' := [.null, .null, .null, .int x3, .null]) (by simp [xsub]) ?_
      intro h; have h := Option.some.inj h; subst h
      exact hk
    · refine kx_go 1 (pc' := 42) (lv' := [.ref 0, .int x1, .int x2, .int x3, .int x4]) (st' := [.ref 0]) hX ok_H_lamp rfl ?_
      refine kx_getp hX ok_H_lamp rfl (q := 1) (nx := 45) rfl ?_
      refine kx_getp hX ok_H_lamp rfl (q := 2) (nx := 48) rfl ?_
      refine kx_go 1 (pc' := 50) (lv' := [.ref 0, .int x1, .int x2, .int x3, .int x4]) (st' := [.int x4, .ref 2]) hX ok_H_lamp rfl ?_
      refine kx_aaT hX ok_H_lamp (nx := 51) rfl (fun bhq2 hq2 => ?_)
      refine kx_gets hq2 hX ok_H_lamp rfl (k := 2) (nx := 54) rfl ?_
      refine kx_go 1 (pc' := 55) (lv' := [.ref 0, .int x1, .int x2, .int x3, .int x4]) (st' := [.int x1, .int (I (hT C x4.toNatClampNeg) 2)]) hX ok_H_lamp rfl ?_
      refine kx_S (as := [.int (I (hT C x4.toNatClampNeg) 2), .int x1]) hX ok_H_lamp (nx := 58) rfl l_H_225 (fun _ => s_Wall_far (G := G) (d := 1) (Nat.le_refl _) C I (I (hT C x4.toNatClampNeg) 2) x1 _ rfl) (by omega) rfl (rest := []) rfl (Nat.le_of_ble_eq_true rfl) ⟨Nat.le_of_ble_eq_true rfl, Nat.le_of_ble_eq_true rfl⟩ ?_
      show _ → kW G X m_H_lamp C I 0 0 58 [.ref 0, .int x1, .int x2, .int x3, .int x4] [.int (M_Wall_far (I (hT C x4.toNatClampNeg) 2) x1)]
      refine kx_go 2 (pc' := if x2 < (M_Wall_far (I (hT C x4.toNatClampNeg) 2) x1) then 69 else 62) (lv' := [.ref 0, .int x1, .int x2, .int x3, .int x4]) (st' := []) hX ok_H_lamp rfl ?_
      refine kx_ite (fun c3 => ?_) (fun c3 => ?_)
      · refine kx_go 2 (pc' := 29) (lv' := [.ref 0, .int x1, .int x2, .int x3, .int (x4 + (1 : Int32))]) (st' := []) hX ok_H_lamp rfl ?_
        exact fun h => ih x3 (x4 + (1 : Int32)) r hk h
      · refine kx_go 8 (pc' := 29) (lv' := [.ref 0, .int x1, .int x2, .int (x3 ||| ((1 : Int32) <<< (x4 &&& (31 : Int32)))), .int (x4 + (1 : Int32))]) (st' := []) hX ok_H_lamp rfl ?_
        exact fun h => ih (x3 ||| ((1 : Int32) <<< (x4 &&& (31 : Int32)))) (x4 + (1 : Int32)) r hk h
def M_H_lamp (C : HC) (I : HI) (x1 : Int32) (x2 : Int32) : Option (Int32 × HI) := if (M_Wall_within x1 (35 : Int32)) = (0 : Int32) then (Option.bind (M_H_error I (1 : Int32)) fun p2 => some (p2.1, p2.2)) else (if (M_Wall_within x2 (10 : Int32)) = (0 : Int32) then (Option.bind (M_H_error I (1 : Int32)) fun p4 => some (p4.1, p4.2)) else (Option.bind (L_H_lamp_29 C x1 x2 I 1000 (0 : Int32) (0 : Int32)) fun p5 => some (p5, I)))
theorem s_H_lamp {G : xG} {d : Nat} (hd : 2 ≤ d) (C : HC) (I : HI) (x1 : Int32) (x2 : Int32)  (r : Int32 × HI) : M_H_lamp C I x1 x2 = some r → kM G d m_H_lamp [.ref 0, .int x1, .int x2] C I 0 0 (some (.int r.1)) C r.2 := by
  unfold M_H_lamp
  refine kM.of (by decide +kernel) (Nat.le_of_ble_eq_true rfl) (lv := [.ref 0, .int x1, .int x2, .null, .null]) rfl (fun X hX hE => ?_)
  refine kx_go 2 (pc' := 3) (lv' := [.ref 0, .int x1, .int x2, .null, .null]) (st' := [.int (35 : Int32), .int x1]) hX ok_H_lamp rfl ?_
  refine kx_S (as := [.int x1, .int (35 : Int32)]) hX ok_H_lamp (nx := 6) rfl l_H_56 (fun _ => s_Wall_within (G := G) (d := 0) (Nat.le_refl _) C I x1 (35 : Int32) _ rfl) (by omega) rfl (rest := []) rfl (Nat.le_of_ble_eq_true rfl) ⟨Nat.le_of_ble_eq_true rfl, Nat.le_of_ble_eq_true rfl⟩ ?_
  show _ → kW G X m_H_lamp C I 0 0 6 [.ref 0, .int x1, .int x2, .null, .null] [.int (M_Wall_within x1 (35 : Int32))]
  refine kx_go 1 (pc' := if (M_Wall_within x1 (35 : Int32)) = (0 : Int32) then 18 else 9) (lv' := [.ref 0, .int x1, .int x2, .null, .null]) (st' := []) hX ok_H_lamp rfl ?_
  refine kx_ite (fun c1 => ?_) (fun c1 => ?_)
  · refine kx_go 2 (pc' := 20) (lv' := [.ref 0, .int x1, .int x2, .null, .null]) (st' := [.int (1 : Int32), .ref 0]) hX ok_H_lamp rfl ?_
    refine kx_bind (fun p2 hp2 => ?_)
    refine kx_V (r := 0) (as := [.int (1 : Int32)]) (by decide) hX ok_H_lamp (nx := 23) rfl l_H_60 (by decide) rfl (fun _ => s_H_error (G := G) (d := 0) (Nat.le_refl _) C I (1 : Int32) p2 hp2) (by omega) rfl (rest := []) rfl (Nat.le_of_ble_eq_true rfl) ⟨Nat.le_of_ble_eq_true rfl, Nat.le_of_ble_eq_true rfl⟩ ?_
    show _ → kW G X m_H_lamp C p2.2 0 0 23 [.ref 0, .int x1, .int x2, .null, .null] [.int p2.1]
    intro h; have h := Option.some.inj h; subst h
    exact kx_iret hX hE ok_H_lamp (nx := 24) rfl rfl ⟨Nat.le_of_ble_eq_true rfl, Nat.le_of_ble_eq_true rfl⟩
  · refine kx_go 2 (pc' := 12) (lv' := [.ref 0, .int x1, .int x2, .null, .null]) (st' := [.int (10 : Int32), .int x2]) hX ok_H_lamp rfl ?_
    refine kx_S (as := [.int x2, .int (10 : Int32)]) hX ok_H_lamp (nx := 15) rfl l_H_56 (fun _ => s_Wall_within (G := G) (d := 0) (Nat.le_refl _) C I x2 (10 : Int32) _ rfl) (by omega) rfl (rest := []) rfl (Nat.le_of_ble_eq_true rfl) ⟨Nat.le_of_ble_eq_true rfl, Nat.le_of_ble_eq_true rfl⟩ ?_
    show _ → kW G X m_H_lamp C I 0 0 15 [.ref 0, .int x1, .int x2, .null, .null] [.int (M_Wall_within x2 (10 : Int32))]
    refine kx_go 1 (pc' := if (M_Wall_within x2 (10 : Int32)) = (0 : Int32) then 18 else 24) (lv' := [.ref 0, .int x1, .int x2, .null, .null]) (st' := []) hX ok_H_lamp rfl ?_
    refine kx_ite (fun c3 => ?_) (fun c3 => ?_)
    · refine kx_go 2 (pc' := 20) (lv' := [.ref 0, .int x1, .int x2, .null, .null]) (st' := [.int (1 : Int32), .ref 0]) hX ok_H_lamp rfl ?_
      refine kx_bind (fun p4 hp4 => ?_)
      refine kx_V (r := 0) (as := [.int (1 : Int32)]) (by decide) hX ok_H_lamp (nx := 23) rfl l_H_60 (by decide) rfl (fun _ => s_H_error (G := G) (d := 0) (Nat.le_refl _) C I (1 : Int32) p4 hp4) (by omega) rfl (rest := []) rfl (Nat.le_of_ble_eq_true rfl) ⟨Nat.le_of_ble_eq_true rfl, Nat.le_of_ble_eq_true rfl⟩ ?_
      show _ → kW G X m_H_lamp C p4.2 0 0 23 [.ref 0, .int x1, .int x2, .null, .null] [.int p4.1]
      intro h; have h := Option.some.inj h; subst h
      exact kx_iret hX hE ok_H_lamp (nx := 24) rfl rfl ⟨Nat.le_of_ble_eq_true rfl, Nat.le_of_ble_eq_true rfl⟩
    · refine kx_go 4 (pc' := 29) (lv' := [.ref 0, .int x1, .int x2, .int (0 : Int32), .int (0 : Int32)]) (st' := []) hX ok_H_lamp rfl ?_
      refine kx_bind (fun p5 hp5 => ?_)
      refine kx_via (fun hk => s_L_H_lamp_29 (G := G) (X := X) (by omega) hX C x1 x2 I 1000 (0 : Int32) (0 : Int32) p5 hk hp5) ?_
      refine kx_go 1 (pc' := 76) (lv' := [.null, .null, .null, .int p5, .null]) (st' := [.int p5]) hX ok_H_lamp rfl ?_
      intro h; have h := Option.some.inj h; subst h
      exact kx_iret hX hE ok_H_lamp (nx := 77) rfl rfl ⟨Nat.le_of_ble_eq_true rfl, Nat.le_of_ble_eq_true rfl⟩
def L_Wall_handsFrom_4 (C : HC) (x1 : Int32) (I : HI) : Nat → Int32 → Int32 → Option (Int32)
  | 0, _, _ => none
  | f + 1, x2, x3 => if (I 1 1) ≤ x3 then (some x2) else (grd (bnd x3 8 && gS C (hT C x3.toNatClampNeg)) (if (I (hT C x3.toNatClampNeg) 3) < x1 then (L_Wall_handsFrom_4 C x1 I f x2 (x3 + (1 : Int32))) else (if (x1 + (9 : Int32)) < (I (hT C x3.toNatClampNeg) 3) then (L_Wall_handsFrom_4 C x1 I f x2 (x3 + (1 : Int32))) else (L_Wall_handsFrom_4 C x1 I f (x2 ||| ((1 : Int32) <<< (x3 &&& (31 : Int32)))) (x3 + (1 : Int32))))))
theorem s_L_Wall_handsFrom_4 {G : xG} {X : xC} {d : Nat} (hd : 0 ≤ d) (hX : xAmb G X m_Wall_handsFrom d 0 0)  (C : HC) (x1 : Int32) (I : HI) : ∀ (f : Nat) (x2 : Int32) (x3 : Int32) (r : Int32), (kW G X m_Wall_handsFrom C I 0 0 53 [.null, .null, .int r, .null] []) → L_Wall_handsFrom_4 C x1 I f x2 x3 = some r → kW G X m_Wall_handsFrom C I 0 0 4 [.ref 1, .int x1, .int x2, .int x3] [] := by
  intro f
  induction f with
  | zero => intro x2 x3 r hk h; rw [L_Wall_handsFrom_4] at h; cases h
  | succ f ih =>
    intro x2 x3 r hk
    rw [L_Wall_handsFrom_4]
    refine kx_go 2 (pc' := 6) (lv' := [.ref 1, .int x1, .int x2, .int x3]) (st' := [.ref 1, .int x3]) hX ok_Wall_handsFrom rfl ?_
    refine kx_geti hX ok_Wall_handsFrom rfl (k := 1) (nx := 9) rfl ?_
    refine kx_go 1 (pc' := if (I 1 1) ≤ x3 then 53 else 12) (lv' := [.ref 1, .int x1, .int x2, .int x3]) (st' := []) hX ok_Wall_handsFrom rfl ?_
    refine kx_ite (fun c1 => ?_) (fun c1 => ?_)
    · refine kx_weak (lv' := [.null, .null, .int x2, .null]) (by simp [xsub]) ?_
      intro h; have h := Option.some.inj h; subst h
      exact hk
    · refine kx_go 1 (pc' := 13) (lv' := [.ref 1, .int x1, .int x2, .int x3]) (st' := [.ref 1]) hX ok_Wall_handsFrom rfl ?_
      refine kx_getp hX ok_Wall_handsFrom rfl (q := 2) (nx := 16) rfl ?_
      refine kx_go 1 (pc' := 17) (lv' := [.ref 1, .int x1, .int x2, .int x3]) (st' := [.int x3, .ref 2]) hX ok_Wall_handsFrom rfl ?_
      refine kx_aaT hX ok_Wall_handsFrom (nx := 18) rfl (fun bhq2 hq2 => ?_)
      refine kx_gets hq2 hX ok_Wall_handsFrom rfl (k := 3) (nx := 21) rfl ?_
      refine kx_go 2 (pc' := if (I (hT C x3.toNatClampNeg) 3) < x1 then 47 else 25) (lv' := [.ref 1, .int x1, .int x2, .int x3]) (st' := []) hX ok_Wall_handsFrom rfl ?_
      refine kx_ite (fun c3 => ?_) (fun c3 => ?_)
      · refine kx_go 2 (pc' := 4) (lv' := [.ref 1, .int x1, .int x2, .int (x3 + (1 : Int32))]) (st' := []) hX ok_Wall_handsFrom rfl ?_
        exact fun h => ih x2 (x3 + (1 : Int32)) r hk h
      · refine kx_go 1 (pc' := 26) (lv' := [.ref 1, .int x1, .int x2, .int x3]) (st' := [.ref 1]) hX ok_Wall_handsFrom rfl ?_
        refine kx_getp hX ok_Wall_handsFrom rfl (q := 2) (nx := 29) rfl ?_
        refine kx_go 1 (pc' := 30) (lv' := [.ref 1, .int x1, .int x2, .int x3]) (st' := [.int x3, .ref 2]) hX ok_Wall_handsFrom rfl ?_
        refine kx_aaTk bhq2 hX ok_Wall_handsFrom (nx := 31) rfl ?_
        refine kx_gets hq2 hX ok_Wall_handsFrom rfl (k := 3) (nx := 34) rfl ?_
        refine kx_go 4 (pc' := if (x1 + (9 : Int32)) < (I (hT C x3.toNatClampNeg) 3) then 47 else 41) (lv' := [.ref 1, .int x1, .int x2, .int x3]) (st' := []) hX ok_Wall_handsFrom rfl ?_
        refine kx_ite (fun c4 => ?_) (fun c4 => ?_)
        · refine kx_go 2 (pc' := 4) (lv' := [.ref 1, .int x1, .int x2, .int (x3 + (1 : Int32))]) (st' := []) hX ok_Wall_handsFrom rfl ?_
          exact fun h => ih x2 (x3 + (1 : Int32)) r hk h
        · refine kx_go 8 (pc' := 4) (lv' := [.ref 1, .int x1, .int (x2 ||| ((1 : Int32) <<< (x3 &&& (31 : Int32)))), .int (x3 + (1 : Int32))]) (st' := []) hX ok_Wall_handsFrom rfl ?_
          exact fun h => ih (x2 ||| ((1 : Int32) <<< (x3 &&& (31 : Int32)))) (x3 + (1 : Int32)) r hk h
def M_Wall_handsFrom (C : HC) (I : HI) (x1 : Int32) : Option (Int32) := Option.bind (L_Wall_handsFrom_4 C x1 I 1000 (0 : Int32) (0 : Int32)) fun p1 => some p1
theorem s_Wall_handsFrom {G : xG} {d : Nat} (hd : 0 ≤ d) (C : HC) (I : HI) (x1 : Int32)  (r : Int32) : M_Wall_handsFrom C I x1 = some r → kM G d m_Wall_handsFrom [.ref 1, .int x1] C I 0 0 (some (.int r)) C I := by
  unfold M_Wall_handsFrom
  refine kM.of (by decide +kernel) (Nat.le_of_ble_eq_true rfl) (lv := [.ref 1, .int x1, .null, .null]) rfl (fun X hX hE => ?_)
  refine kx_go 4 (pc' := 4) (lv' := [.ref 1, .int x1, .int (0 : Int32), .int (0 : Int32)]) (st' := []) hX ok_Wall_handsFrom rfl ?_
  refine kx_bind (fun p1 hp1 => ?_)
  refine kx_via (fun hk => s_L_Wall_handsFrom_4 (G := G) (X := X) (by omega) hX C x1 I 1000 (0 : Int32) (0 : Int32) p1 hk hp1) ?_
  refine kx_go 1 (pc' := 54) (lv' := [.null, .null, .int p1, .null]) (st' := [.int p1]) hX ok_Wall_handsFrom rfl ?_
  intro h; have h := Option.some.inj h; subst h
  exact kx_iret hX hE ok_Wall_handsFrom (nx := 55) rfl rfl ⟨Nat.le_of_ble_eq_true rfl, Nat.le_of_ble_eq_true rfl⟩
def L_H_hand_22 (C : HC) (x1 : Int32) (I : HI) : Nat → Int32 → Int32 → Option (Int32)
  | 0, _, _ => none
  | f + 1, x2, x3 => if x1 < x3 then (some x2) else (Option.bind (M_Wall_handsFrom C I x3) fun p2 => if (0 : Int32) < ((M_Int_bitCount p2) - (M_Int_bitCount x2)) then (L_H_hand_22 C x1 I f p2 (x3 + (1 : Int32))) else (if ((M_Int_bitCount p2) - (M_Int_bitCount x2)) = (0 : Int32) then (if x2 ≤ p2 then (L_H_hand_22 C x1 I f x2 (x3 + (1 : Int32))) else (L_H_hand_22 C x1 I f p2 (x3 + (1 : Int32)))) else (L_H_hand_22 C x1 I f x2 (x3 + (1 : Int32)))))
theorem s_L_H_hand_22 {G : xG} {X : xC} {d : Nat} (hd : 1 ≤ d) (hX : xAmb G X m_H_hand d 0 0)  (C : HC) (x1 : Int32) (I : HI) : ∀ (f : Nat) (x2 : Int32) (x3 : Int32) (r : Int32), (kW G X m_H_hand C I 0 0 74 [.null, .null, .int r, .null, .null, .null] []) → L_H_hand_22 C x1 I f x2 x3 = some r → kW G X m_H_hand C I 0 0 22 [.ref 0, .int x1, .int x2, .int x3, .null, .null] [] := by
  intro f
  induction f with
  | zero => intro x2 x3 r hk h; rw [L_H_hand_22] at h; cases h
  | succ f ih =>
    intro x2 x3 r hk
    rw [L_H_hand_22]
    refine kx_go 3 (pc' := if x1 < x3 then 74 else 27) (lv' := [.ref 0, .int x1, .int x2, .int x3, .null, .null]) (st' := []) hX ok_H_hand rfl ?_
    refine kx_ite (fun c1 => ?_) (fun c1 => ?_)
    · refine kx_weak (lv' := [.null, .null, .int x2, .null, .null, .null]) (by simp [xsub]) ?_
      intro h; have h := Option.some.inj h; subst h
      exact hk
    · refine kx_go 1 (pc' := 28) (lv' := [.ref 0, .int x1, .int x2, .int x3, .null, .null]) (st' := [.ref 0]) hX ok_H_hand rfl ?_
      refine kx_getp hX ok_H_hand rfl (q := 1) (nx := 31) rfl ?_
      refine kx_go 1 (pc' := 32) (lv' := [.ref 0, .int x1, .int x2, .int x3, .null, .null]) (st' := [.int x3, .ref 1]) hX ok_H_hand rfl ?_
      refine kx_bind (fun p2 hp2 => ?_)
      refine kx_V (r := 1) (as := [.int x3]) (by decide) hX ok_H_hand (nx := 35) rfl l_H_229 (by decide) rfl (fun _ => s_Wall_handsFrom (G := G) (d := 0) (Nat.le_refl _) C I x3 p2 hp2) (by omega) rfl (rest := []) rfl (Nat.le_of_ble_eq_true rfl) ⟨Nat.le_of_ble_eq_true rfl, Nat.le_of_ble_eq_true rfl⟩ ?_
      show _ → kW G X m_H_hand C I 0 0 35 [.ref 0, .int x1, .int x2, .int x3, .null, .null] [.int p2]
      refine kx_go 2 (pc' := 39) (lv' := [.ref 0, .int x1, .int x2, .int x3, .int p2, .null]) (st' := [.int p2]) hX ok_H_hand rfl ?_
      refine kx_S (as := [.int p2]) hX ok_H_hand (nx := 42) rfl l_H_232 (fun _ => s_Int_bitCount (G := G) (d := 0) (Nat.le_refl _) C I p2 _ rfl) (by omega) rfl (rest := []) rfl (Nat.le_of_ble_eq_true rfl) ⟨Nat.le_of_ble_eq_true rfl, Nat.le_of_ble_eq_true rfl⟩ ?_
      show _ → kW G X m_H_hand C I 0 0 42 [.ref 0, .int x1, .int x2, .int x3, .int p2, .null] [.int (M_Int_bitCount p2)]
      refine kx_go 1 (pc' := 43) (lv' := [.ref 0, .int x1, .int x2, .int x3, .int p2, .null]) (st' := [.int x2, .int (M_Int_bitCount p2)]) hX ok_H_hand rfl ?_
      refine kx_S (as := [.int x2]) hX ok_H_hand (nx := 46) rfl l_H_232 (fun _ => s_Int_bitCount (G := G) (d := 0) (Nat.le_refl _) C I x2 _ rfl) (by omega) rfl (rest := [.int (M_Int_bitCount p2)]) rfl (Nat.le_of_ble_eq_true rfl) ⟨Nat.le_of_ble_eq_true rfl, Nat.le_of_ble_eq_true rfl⟩ ?_
      show _ → kW G X m_H_hand C I 0 0 46 [.ref 0, .int x1, .int x2, .int x3, .int p2, .null] [.int (M_Int_bitCount x2), .int (M_Int_bitCount p2)]
      refine kx_go 4 (pc' := if (0 : Int32) < ((M_Int_bitCount p2) - (M_Int_bitCount x2)) then 65 else 54) (lv' := [.ref 0, .int x1, .int x2, .int x3, .int p2, .int ((M_Int_bitCount p2) - (M_Int_bitCount x2))]) (st' := []) hX ok_H_hand rfl ?_
      refine kx_ite (fun c3 => ?_) (fun c3 => ?_)
      · refine kx_go 4 (pc' := 22) (lv' := [.ref 0, .int x1, .int p2, .int (x3 + (1 : Int32)), .int p2, .int ((M_Int_bitCount p2) - (M_Int_bitCount x2))]) (st' := []) hX ok_H_hand rfl ?_
        refine kx_weak (lv' := [.ref 0, .int x1, .int p2, .int (x3 + (1 : Int32)), .null, .null]) (by simp [xsub]) ?_
        exact fun h => ih p2 (x3 + (1 : Int32)) r hk h
      · refine kx_go 2 (pc' := if ((M_Int_bitCount p2) - (M_Int_bitCount x2)) = (0 : Int32) then 59 else 68) (lv' := [.ref 0, .int x1, .int x2, .int x3, .int p2, .int ((M_Int_bitCount p2) - (M_Int_bitCount x2))]) (st' := []) hX ok_H_hand rfl ?_
        refine kx_ite (fun c4 => ?_) (fun c4 => ?_)
        · refine kx_go 3 (pc' := if x2 ≤ p2 then 68 else 65) (lv' := [.ref 0, .int x1, .int x2, .int x3, .int p2, .int ((M_Int_bitCount p2) - (M_Int_bitCount x2))]) (st' := []) hX ok_H_hand rfl ?_
          refine kx_ite (fun c5 => ?_) (fun c5 => ?_)
          · refine kx_go 2 (pc' := 22) (lv' := [.ref 0, .int x1, .int x2, .int (x3 + (1 : Int32)), .int p2, .int ((M_Int_bitCount p2) - (M_Int_bitCount x2))]) (st' := []) hX ok_H_hand rfl ?_
            refine kx_weak (lv' := [.ref 0, .int x1, .int x2, .int (x3 + (1 : Int32)), .null, .null]) (by simp [xsub]) ?_
            exact fun h => ih x2 (x3 + (1 : Int32)) r hk h
          · refine kx_go 4 (pc' := 22) (lv' := [.ref 0, .int x1, .int p2, .int (x3 + (1 : Int32)), .int p2, .int ((M_Int_bitCount p2) - (M_Int_bitCount x2))]) (st' := []) hX ok_H_hand rfl ?_
            refine kx_weak (lv' := [.ref 0, .int x1, .int p2, .int (x3 + (1 : Int32)), .null, .null]) (by simp [xsub]) ?_
            exact fun h => ih p2 (x3 + (1 : Int32)) r hk h
        · refine kx_go 2 (pc' := 22) (lv' := [.ref 0, .int x1, .int x2, .int (x3 + (1 : Int32)), .int p2, .int ((M_Int_bitCount p2) - (M_Int_bitCount x2))]) (st' := []) hX ok_H_hand rfl ?_
          refine kx_weak (lv' := [.ref 0, .int x1, .int x2, .int (x3 + (1 : Int32)), .null, .null]) (by simp [xsub]) ?_
          exact fun h => ih x2 (x3 + (1 : Int32)) r hk h
def M_H_hand (C : HC) (I : HI) (x1 : Int32) : Option (Int32 × HI) := if (M_Wall_within x1 (99 : Int32)) = (0 : Int32) then (Option.bind (M_H_error I (1 : Int32)) fun p2 => some (p2.1, p2.2)) else (Option.bind (L_H_hand_22 C x1 I 1000 (0 : Int32) (x1 - (9 : Int32))) fun p3 => some (p3, I))
theorem s_H_hand {G : xG} {d : Nat} (hd : 1 ≤ d) (C : HC) (I : HI) (x1 : Int32)  (r : Int32 × HI) : M_H_hand C I x1 = some r → kM G d m_H_hand [.ref 0, .int x1] C I 0 0 (some (.int r.1)) C r.2 := by
  unfold M_H_hand
  refine kM.of (by decide +kernel) (Nat.le_of_ble_eq_true rfl) (lv := [.ref 0, .int x1, .null, .null, .null, .null]) rfl (fun X hX hE => ?_)
  refine kx_go 2 (pc' := 3) (lv' := [.ref 0, .int x1, .null, .null, .null, .null]) (st' := [.int (99 : Int32), .int x1]) hX ok_H_hand rfl ?_
  refine kx_S (as := [.int x1, .int (99 : Int32)]) hX ok_H_hand (nx := 6) rfl l_H_56 (fun _ => s_Wall_within (G := G) (d := 0) (Nat.le_refl _) C I x1 (99 : Int32) _ rfl) (by omega) rfl (rest := []) rfl (Nat.le_of_ble_eq_true rfl) ⟨Nat.le_of_ble_eq_true rfl, Nat.le_of_ble_eq_true rfl⟩ ?_
  show _ → kW G X m_H_hand C I 0 0 6 [.ref 0, .int x1, .null, .null, .null, .null] [.int (M_Wall_within x1 (99 : Int32))]
  refine kx_go 1 (pc' := if (M_Wall_within x1 (99 : Int32)) = (0 : Int32) then 9 else 15) (lv' := [.ref 0, .int x1, .null, .null, .null, .null]) (st' := []) hX ok_H_hand rfl ?_
  refine kx_ite (fun c1 => ?_) (fun c1 => ?_)
  · refine kx_go 2 (pc' := 11) (lv' := [.ref 0, .int x1, .null, .null, .null, .null]) (st' := [.int (1 : Int32), .ref 0]) hX ok_H_hand rfl ?_
    refine kx_bind (fun p2 hp2 => ?_)
    refine kx_V (r := 0) (as := [.int (1 : Int32)]) (by decide) hX ok_H_hand (nx := 14) rfl l_H_60 (by decide) rfl (fun _ => s_H_error (G := G) (d := 0) (Nat.le_refl _) C I (1 : Int32) p2 hp2) (by omega) rfl (rest := []) rfl (Nat.le_of_ble_eq_true rfl) ⟨Nat.le_of_ble_eq_true rfl, Nat.le_of_ble_eq_true rfl⟩ ?_
    show _ → kW G X m_H_hand C p2.2 0 0 14 [.ref 0, .int x1, .null, .null, .null, .null] [.int p2.1]
    intro h; have h := Option.some.inj h; subst h
    exact kx_iret hX hE ok_H_hand (nx := 15) rfl rfl ⟨Nat.le_of_ble_eq_true rfl, Nat.le_of_ble_eq_true rfl⟩
  · refine kx_go 6 (pc' := 22) (lv' := [.ref 0, .int x1, .int (0 : Int32), .int (x1 - (9 : Int32)), .null, .null]) (st' := []) hX ok_H_hand rfl ?_
    refine kx_bind (fun p3 hp3 => ?_)
    refine kx_via (fun hk => s_L_H_hand_22 (G := G) (X := X) (by omega) hX C x1 I 1000 (0 : Int32) (x1 - (9 : Int32)) p3 hk hp3) ?_
    refine kx_go 1 (pc' := 75) (lv' := [.null, .null, .int p3, .null, .null, .null]) (st' := [.int p3]) hX ok_H_hand rfl ?_
    intro h; have h := Option.some.inj h; subst h
    exact kx_iret hX hE ok_H_hand (nx := 76) rfl rfl ⟨Nat.le_of_ble_eq_true rfl, Nat.le_of_ble_eq_true rfl⟩
def M_Wall_drawn (I : HI) : Int32 × HI := lt (xu I 1 12 (((I 1 12) * (1103515245 : Int32)) + (12345 : Int32))) fun J1 => ((ush (J1 1 12) (8 : Int32)), J1)
theorem s_Wall_drawn {G : xG} {d : Nat} (hd : 0 ≤ d) (C : HC) (I : HI)   (r : Int32 × HI) : M_Wall_drawn I = r → kM G d m_Wall_drawn [.ref 1] C I 0 0 (some (.int r.1)) C r.2 := by
  unfold M_Wall_drawn
  refine kM.of (by decide +kernel) (Nat.le_of_ble_eq_true rfl) (lv := [.ref 1]) rfl (fun X hX hE => ?_)
  refine kx_go 2 (pc' := 2) (lv' := [.ref 1]) (st' := [.ref 1, .ref 1]) hX ok_Wall_drawn rfl ?_
  refine kx_geti hX ok_Wall_drawn rfl (k := 12) (nx := 5) rfl ?_
  refine kx_go 4 (pc' := 12) (lv' := [.ref 1]) (st' := [.int (((I 1 12) * (1103515245 : Int32)) + (12345 : Int32)), .ref 1]) hX ok_Wall_drawn rfl ?_
  refine kx_puti hX ok_Wall_drawn rfl (k := 12) (nx := 15) rfl rfl ?_
  refine kx_lt (Q := fun J1 => kW G X m_Wall_drawn C J1 0 0 15 [.ref 1] []) (fun J1 eJ1 => ?_)
  refine kx_go 1 (pc' := 16) (lv' := [.ref 1]) (st' := [.ref 1]) hX ok_Wall_drawn rfl ?_
  refine kx_geti hX ok_Wall_drawn rfl (k := 12) (nx := 19) rfl ?_
  refine kx_go 2 (pc' := 22) (lv' := [.ref 1]) (st' := [.int (ush (J1 1 12) (8 : Int32))]) hX ok_Wall_drawn rfl ?_
  rintro rfl
  exact kx_iret hX hE ok_Wall_drawn (nx := 23) rfl rfl ⟨Nat.le_of_ble_eq_true rfl, Nat.le_of_ble_eq_true rfl⟩
def M_Wall_turnLook (I : HI) (x1 : Int32) : Option (HI) := grd (bnd x1 12) (lt (xu I 11 x1.toNatClampNeg (I 12 x1.toNatClampNeg)) fun J2 => lt (xu J2 12 x1.toNatClampNeg (I 11 x1.toNatClampNeg)) fun J3 => some J3)
theorem s_Wall_turnLook {G : xG} {d : Nat} (hd : 0 ≤ d) (C : HC) (I : HI) (x1 : Int32)  (r : HI) : M_Wall_turnLook I x1 = some r → kM G d m_Wall_turnLook [.ref 1, .int x1] C I 0 0 none C r := by
  unfold M_Wall_turnLook
  refine kM.of (by decide +kernel) (Nat.le_of_ble_eq_true rfl) (lv := [.ref 1, .int x1, .null]) rfl (fun X hX hE => ?_)
  refine kx_go 1 (pc' := 1) (lv' := [.ref 1, .int x1, .null]) (st' := [.ref 1]) hX ok_Wall_turnLook rfl ?_
  refine kx_getp hX ok_Wall_turnLook rfl (q := 11) (nx := 4) rfl ?_
  refine kx_go 1 (pc' := 5) (lv' := [.ref 1, .int x1, .null]) (st' := [.int x1, .ref 11]) hX ok_Wall_turnLook rfl ?_
  refine kx_iald hX ok_Wall_turnLook (w := 12) (nx := 6) rfl (fun b1 => ?_)
  refine kx_go 2 (pc' := 8) (lv' := [.ref 1, .int x1, .int (I 11 x1.toNatClampNeg)]) (st' := [.ref 1]) hX ok_Wall_turnLook rfl ?_
  refine kx_getp hX ok_Wall_turnLook rfl (q := 11) (nx := 11) rfl ?_
  refine kx_go 2 (pc' := 13) (lv' := [.ref 1, .int x1, .int (I 11 x1.toNatClampNeg)]) (st' := [.ref 1, .int x1, .ref 11]) hX ok_Wall_turnLook rfl ?_
  refine kx_getp hX ok_Wall_turnLook rfl (q := 12) (nx := 16) rfl ?_
  refine kx_go 1 (pc' := 17) (lv' := [.ref 1, .int x1, .int (I 11 x1.toNatClampNeg)]) (st' := [.int x1, .ref 12, .int x1, .ref 11]) hX ok_Wall_turnLook rfl ?_
  refine kx_ialdc hX ok_Wall_turnLook (w := 12) (nx := 18) rfl b1 (k := x1.toNatClampNeg) rfl ?_
  refine kx_iastc hX ok_Wall_turnLook (w := 12) (nx := 19) rfl b1 (k := x1.toNatClampNeg) rfl ?_
  refine kx_lt (Q := fun J2 => kW G X m_Wall_turnLook C J2 0 0 19 [.ref 1, .int x1, .int (I 11 x1.toNatClampNeg)] []) (fun J2 eJ2 => ?_)
  refine kx_go 1 (pc' := 20) (lv' := [.ref 1, .int x1, .int (I 11 x1.toNatClampNeg)]) (st' := [.ref 1]) hX ok_Wall_turnLook rfl ?_
  refine kx_getp hX ok_Wall_turnLook rfl (q := 12) (nx := 23) rfl ?_
  refine kx_go 2 (pc' := 25) (lv' := [.ref 1, .int x1, .int (I 11 x1.toNatClampNeg)]) (st' := [.int (I 11 x1.toNatClampNeg), .int x1, .ref 12]) hX ok_Wall_turnLook rfl ?_
  refine kx_iastc hX ok_Wall_turnLook (w := 12) (nx := 26) rfl b1 (k := x1.toNatClampNeg) rfl ?_
  refine kx_lt (Q := fun J3 => kW G X m_Wall_turnLook C J3 0 0 26 [.ref 1, .int x1, .int (I 11 x1.toNatClampNeg)] []) (fun J3 eJ3 => ?_)
  intro h; have h := Option.some.inj h; subst h
  exact kx_vret hX hE ok_Wall_turnLook (nx := 27) rfl rfl ⟨Nat.le_of_ble_eq_true rfl, Nat.le_of_ble_eq_true rfl⟩
def L_H_again_4  : Nat → Int32 → Int32 → HI → Option (Int32 × HI)
  | 0, _, _, _ => none
  | f + 1, x1, x2, I => if (I 1 5) ≤ x2 then (some (x1, I)) else (lt (M_Wall_drawn I) fun p2 => grd (bnd x2 12) (if (p2.1 - p2.1 / (100 : Int32) * (100 : Int32)) < (p2.2 13 x2.toNatClampNeg) then (L_H_again_4 f x1 (x2 + (1 : Int32)) p2.2) else (Option.bind (M_Wall_turnLook p2.2 x2) fun p5 => L_H_again_4 f (x1 + (1 : Int32)) (x2 + (1 : Int32)) p5)))
theorem s_L_H_again_4 {G : xG} {X : xC} {d : Nat} (hd : 1 ≤ d) (hX : xAmb G X m_H_again d 0 0)  (C : HC) : ∀ (f : Nat) (x1 : Int32) (x2 : Int32) (I : HI) (r : Int32 × HI), (kW G X m_H_again C r.2 0 0 54 [.null, .int r.1, .null] []) → L_H_again_4 f x1 x2 I = some r → kW G X m_H_again C I 0 0 4 [.ref 0, .int x1, .int x2] [] := by
  intro f
  induction f with
  | zero => intro x1 x2 I r hk h; rw [L_H_again_4] at h; cases h
  | succ f ih =>
    intro x1 x2 I r hk
    rw [L_H_again_4]
    refine kx_go 2 (pc' := 6) (lv' := [.ref 0, .int x1, .int x2]) (st' := [.ref 0, .int x2]) hX ok_H_again rfl ?_
    refine kx_getp hX ok_H_again rfl (q := 1) (nx := 9) rfl ?_
    refine kx_geti hX ok_H_again rfl (k := 5) (nx := 12) rfl ?_
    refine kx_go 1 (pc' := if (I 1 5) ≤ x2 then 54 else 15) (lv' := [.ref 0, .int x1, .int x2]) (st' := []) hX ok_H_again rfl ?_
    refine kx_ite (fun c1 => ?_) (fun c1 => ?_)
    · refine kx_weak (lv' := [.null, .int x1, .null]) (by simp [xsub]) ?_
      intro h; have h := Option.some.inj h; subst h
      exact hk
    · refine kx_go 1 (pc' := 16) (lv' := [.ref 0, .int x1, .int x2]) (st' := [.ref 0]) hX ok_H_again rfl ?_
      refine kx_getp hX ok_H_again rfl (q := 1) (nx := 19) rfl ?_
      refine kx_lti (fun p2 hp2 => ?_)
      refine kx_V (r := 1) (as := []) (by decide) hX ok_H_again (nx := 22) rfl l_H_237 (by decide) rfl (fun _ => s_Wall_drawn (G := G) (d := 0) (Nat.le_refl _) C I  p2 hp2) (by omega) rfl (rest := []) rfl (Nat.le_of_ble_eq_true rfl) ⟨Nat.le_of_ble_eq_true rfl, Nat.le_of_ble_eq_true rfl⟩ ?_
      show _ → kW G X m_H_again C p2.2 0 0 22 [.ref 0, .int x1, .int x2] [.int p2.1]
      refine kx_go 1 (pc' := 24) (lv' := [.ref 0, .int x1, .int x2]) (st' := [.int (100 : Int32), .int p2.1]) hX ok_H_again rfl ?_
      refine kx_iremc hX ok_H_again (nx := 25) rfl (by decide) ?_
      refine kx_go 1 (pc' := 26) (lv' := [.ref 0, .int x1, .int x2]) (st' := [.ref 0, .int (p2.1 - p2.1 / (100 : Int32) * (100 : Int32))]) hX ok_H_again rfl ?_
      refine kx_getp hX ok_H_again rfl (q := 1) (nx := 29) rfl ?_
      refine kx_getp hX ok_H_again rfl (q := 13) (nx := 32) rfl ?_
      refine kx_go 1 (pc' := 33) (lv' := [.ref 0, .int x1, .int x2]) (st' := [.int x2, .ref 13, .int (p2.1 - p2.1 / (100 : Int32) * (100 : Int32))]) hX ok_H_again rfl ?_
      refine kx_iald hX ok_H_again (w := 12) (nx := 34) rfl (fun b3 => ?_)
      refine kx_go 1 (pc' := if (p2.1 - p2.1 / (100 : Int32) * (100 : Int32)) < (p2.2 13 x2.toNatClampNeg) then 48 else 37) (lv' := [.ref 0, .int x1, .int x2]) (st' := []) hX ok_H_again rfl ?_
      refine kx_ite (fun c4 => ?_) (fun c4 => ?_)
      · refine kx_go 2 (pc' := 4) (lv' := [.ref 0, .int x1, .int (x2 + (1 : Int32))]) (st' := []) hX ok_H_again rfl ?_
        exact fun h => ih x1 (x2 + (1 : Int32)) p2.2 r hk h
      · refine kx_go 1 (pc' := 38) (lv' := [.ref 0, .int x1, .int x2]) (st' := [.ref 0]) hX ok_H_again rfl ?_
        refine kx_getp hX ok_H_again rfl (q := 1) (nx := 41) rfl ?_
        refine kx_go 1 (pc' := 42) (lv' := [.ref 0, .int x1, .int x2]) (st' := [.int x2, .ref 1]) hX ok_H_again rfl ?_
        refine kx_bind (fun p5 hp5 => ?_)
        refine kx_V (r := 1) (as := [.int x2]) (by decide) hX ok_H_again (nx := 45) rfl l_H_240 (by decide) rfl (fun _ => s_Wall_turnLook (G := G) (d := 0) (Nat.le_refl _) C p2.2 x2 p5 hp5) (by omega) rfl (rest := []) rfl (Nat.le_of_ble_eq_true rfl) ⟨Nat.le_of_ble_eq_true rfl, Nat.le_of_ble_eq_true rfl⟩ ?_
        show _ → kW G X m_H_again C p5 0 0 45 [.ref 0, .int x1, .int x2] []
        refine kx_go 3 (pc' := 4) (lv' := [.ref 0, .int (x1 + (1 : Int32)), .int (x2 + (1 : Int32))]) (st' := []) hX ok_H_again rfl ?_
        exact fun h => ih (x1 + (1 : Int32)) (x2 + (1 : Int32)) p5 r hk h
def M_H_again (I : HI) : Option (Int32 × HI) := Option.bind (L_H_again_4 1000 (0 : Int32) (0 : Int32) I) fun p1 => some (p1.1, p1.2)
theorem s_H_again {G : xG} {d : Nat} (hd : 1 ≤ d) (C : HC) (I : HI)   (r : Int32 × HI) : M_H_again I = some r → kM G d m_H_again [.ref 0] C I 0 0 (some (.int r.1)) C r.2 := by
  unfold M_H_again
  refine kM.of (by decide +kernel) (Nat.le_of_ble_eq_true rfl) (lv := [.ref 0, .null, .null]) rfl (fun X hX hE => ?_)
  refine kx_go 4 (pc' := 4) (lv' := [.ref 0, .int (0 : Int32), .int (0 : Int32)]) (st' := []) hX ok_H_again rfl ?_
  refine kx_bind (fun p1 hp1 => ?_)
  refine kx_via (fun hk => s_L_H_again_4 (G := G) (X := X) (by omega) hX C 1000 (0 : Int32) (0 : Int32) I p1 hk hp1) ?_
  refine kx_go 1 (pc' := 55) (lv' := [.null, .int p1.1, .null]) (st' := [.int p1.1]) hX ok_H_again rfl ?_
  intro h; have h := Option.some.inj h; subst h
  exact kx_iret hX hE ok_H_again (nx := 56) rfl rfl ⟨Nat.le_of_ble_eq_true rfl, Nat.le_of_ble_eq_true rfl⟩
def M_H_seed (I : HI) (x1 : Int32) : Int32 × HI := lt (xu I 1 12 x1) fun J1 => ((I 1 12), J1)
theorem s_H_seed {G : xG} {d : Nat} (hd : 0 ≤ d) (C : HC) (I : HI) (x1 : Int32)  (r : Int32 × HI) : M_H_seed I x1 = r → kM G d m_H_seed [.ref 0, .int x1] C I 0 0 (some (.int r.1)) C r.2 := by
  unfold M_H_seed
  refine kM.of (by decide +kernel) (Nat.le_of_ble_eq_true rfl) (lv := [.ref 0, .int x1, .null]) rfl (fun X hX hE => ?_)
  refine kx_go 1 (pc' := 1) (lv' := [.ref 0, .int x1, .null]) (st' := [.ref 0]) hX ok_H_seed rfl ?_
  refine kx_getp hX ok_H_seed rfl (q := 1) (nx := 4) rfl ?_
  refine kx_geti hX ok_H_seed rfl (k := 12) (nx := 7) rfl ?_
  refine kx_go 2 (pc' := 9) (lv' := [.ref 0, .int x1, .int (I 1 12)]) (st' := [.ref 0]) hX ok_H_seed rfl ?_
  refine kx_getp hX ok_H_seed rfl (q := 1) (nx := 12) rfl ?_
  refine kx_go 1 (pc' := 13) (lv' := [.ref 0, .int x1, .int (I 1 12)]) (st' := [.int x1, .ref 1]) hX ok_H_seed rfl ?_
  refine kx_puti hX ok_H_seed rfl (k := 12) (nx := 16) rfl rfl ?_
  refine kx_lt (Q := fun J1 => kW G X m_H_seed C J1 0 0 16 [.ref 0, .int x1, .int (I 1 12)] []) (fun J1 eJ1 => ?_)
  refine kx_go 1 (pc' := 17) (lv' := [.ref 0, .int x1, .int (I 1 12)]) (st' := [.int (I 1 12)]) hX ok_H_seed rfl ?_
  rintro rfl
  exact kx_iret hX hE ok_H_seed (nx := 18) rfl rfl ⟨Nat.le_of_ble_eq_true rfl, Nat.le_of_ble_eq_true rfl⟩
def M_Stroke_begin (I : HI) (x1 : Int32) : Option (HI) := if (40 : Int32) ≤ (I 86 0) then (some I) else (lt (xu I 86 0 ((I 86 0) + (1 : Int32))) fun J2 => grd (bnd (J2 86 0) 41) (lt (xu J2 86 (J2 86 0).toNatClampNeg x1) fun J4 => some J4))
theorem s_Stroke_begin {G : xG} {d : Nat} (hd : 0 ≤ d) (C : HC) (I : HI) (x1 : Int32)  (r : HI) : M_Stroke_begin I x1 = some r → kM G d m_Stroke_begin [.ref 86, .int x1] C I 0 0 none C r := by
  unfold M_Stroke_begin
  refine kM.of (by decide +kernel) (Nat.le_of_ble_eq_true rfl) (lv := [.ref 86, .int x1]) rfl (fun X hX hE => ?_)
  refine kx_go 2 (pc' := 2) (lv' := [.ref 86, .int x1]) (st' := [.int (0 : Int32), .ref 86]) hX ok_Stroke_begin rfl ?_
  refine kx_ialdc hX ok_Stroke_begin (w := 41) (nx := 3) rfl rfl (k := 0) rfl ?_
  refine kx_go 2 (pc' := if (40 : Int32) ≤ (I 86 0) then 21 else 8) (lv' := [.ref 86, .int x1]) (st' := []) hX ok_Stroke_begin rfl ?_
  refine kx_ite (fun c1 => ?_) (fun c1 => ?_)
  · intro h; have h := Option.some.inj h; subst h
    exact kx_vret hX hE ok_Stroke_begin (nx := 22) rfl rfl ⟨Nat.le_of_ble_eq_true rfl, Nat.le_of_ble_eq_true rfl⟩
  · refine kx_go 3 (pc' := 11) (lv' := [.ref 86, .int x1]) (st' := [.int (0 : Int32), .ref 86, .int (0 : Int32), .ref 86]) hX ok_Stroke_begin rfl ?_
    refine kx_ialdc hX ok_Stroke_begin (w := 41) (nx := 12) rfl rfl (k := 0) rfl ?_
    refine kx_go 2 (pc' := 14) (lv' := [.ref 86, .int x1]) (st' := [.int ((I 86 0) + (1 : Int32)), .int (0 : Int32), .ref 86]) hX ok_Stroke_begin rfl ?_
    refine kx_iastc hX ok_Stroke_begin (w := 41) (nx := 15) rfl rfl (k := 0) rfl ?_
    refine kx_lt (Q := fun J2 => kW G X m_Stroke_begin C J2 0 0 15 [.ref 86, .int x1] []) (fun J2 eJ2 => ?_)
    refine kx_go 3 (pc' := 18) (lv' := [.ref 86, .int x1]) (st' := [.int (0 : Int32), .ref 86, .ref 86]) hX ok_Stroke_begin rfl ?_
    refine kx_ialdc hX ok_Stroke_begin (w := 41) (nx := 19) rfl rfl (k := 0) rfl ?_
    refine kx_go 1 (pc' := 20) (lv' := [.ref 86, .int x1]) (st' := [.int x1, .int (J2 86 0), .ref 86]) hX ok_Stroke_begin rfl ?_
    refine kx_iast hX ok_Stroke_begin (w := 41) (nx := 21) rfl (fun b3 => ?_)
    refine kx_lt (Q := fun J4 => kW G X m_Stroke_begin C J4 0 0 21 [.ref 86, .int x1] []) (fun J4 eJ4 => ?_)
    intro h; have h := Option.some.inj h; subst h
    exact kx_vret hX hE ok_Stroke_begin (nx := 22) rfl rfl ⟨Nat.le_of_ble_eq_true rfl, Nat.le_of_ble_eq_true rfl⟩
def M_Stroke_draws (I : HI) (q0 : Nat) (x2 : Int32) : Option (Int32 × HI) := Option.bind (M_Stroke_begin I (10 : Int32)) fun p1 => some ((x2 + (p1 q0 0)), p1)
theorem s_Stroke_draws {G : xG} {d : Nat} (hd : 1 ≤ d) (C : HC) (I : HI) (q0 : Nat) (x2 : Int32) (hq0 : gS C q0 = true) (r : Int32 × HI) : M_Stroke_draws I q0 x2 = some r → kM G d m_Stroke_draws [.ref q0, .ref 86, .int x2] C I 0 0 (some (.int r.1)) C r.2 := by
  unfold M_Stroke_draws
  refine kM.of (by decide +kernel) (Nat.le_of_ble_eq_true rfl) (lv := [.ref q0, .ref 86, .int x2]) rfl (fun X hX hE => ?_)
  refine kx_go 2 (pc' := 3) (lv' := [.ref q0, .ref 86, .int x2]) (st' := [.int (10 : Int32), .ref 86]) hX ok_Stroke_draws rfl ?_
  refine kx_bind (fun p1 hp1 => ?_)
  refine kx_S (as := [.ref 86, .int (10 : Int32)]) hX ok_Stroke_draws (nx := 6) rfl l_Stroke_33 (fun _ => s_Stroke_begin (G := G) (d := 0) (Nat.le_refl _) C I (10 : Int32) p1 hp1) (by omega) rfl (rest := []) rfl (Nat.le_of_ble_eq_true rfl) ⟨Nat.le_of_ble_eq_true rfl, Nat.le_of_ble_eq_true rfl⟩ ?_
  show _ → kW G X m_Stroke_draws C p1 0 0 6 [.ref q0, .ref 86, .int x2] []
  refine kx_go 2 (pc' := 8) (lv' := [.ref q0, .ref 86, .int x2]) (st' := [.ref q0, .int x2]) hX ok_Stroke_draws rfl ?_
  refine kx_gets hq0 hX ok_Stroke_draws rfl (k := 0) (nx := 11) rfl ?_
  refine kx_go 1 (pc' := 12) (lv' := [.ref q0, .ref 86, .int x2]) (st' := [.int (x2 + (p1 q0 0))]) hX ok_Stroke_draws rfl ?_
  intro h; have h := Option.some.inj h; subst h
  exact kx_iret hX hE ok_Stroke_draws (nx := 13) rfl rfl ⟨Nat.le_of_ble_eq_true rfl, Nat.le_of_ble_eq_true rfl⟩
def M_Black_draws (I : HI) (q0 : Nat) (x2 : Int32) : Option (Int32 × HI) := Option.bind (M_Stroke_begin I (30 : Int32)) fun p1 => Option.bind (M_Stroke_draws p1 q0 x2) fun p2 => some ((p2.1 * (3 : Int32)), p2.2)
theorem s_Black_draws {G : xG} {d : Nat} (hd : 2 ≤ d) (C : HC) (I : HI) (q0 : Nat) (x2 : Int32) (hq0 : gS C q0 = true) (r : Int32 × HI) : M_Black_draws I q0 x2 = some r → kM G d m_Black_draws [.ref q0, .ref 86, .int x2] C I 0 0 (some (.int r.1)) C r.2 := by
  unfold M_Black_draws
  refine kM.of (by decide +kernel) (Nat.le_of_ble_eq_true rfl) (lv := [.ref q0, .ref 86, .int x2]) rfl (fun X hX hE => ?_)
  refine kx_go 2 (pc' := 3) (lv' := [.ref q0, .ref 86, .int x2]) (st' := [.int (30 : Int32), .ref 86]) hX ok_Black_draws rfl ?_
  refine kx_bind (fun p1 hp1 => ?_)
  refine kx_SS (as := [.ref 86, .int (30 : Int32)]) hX ok_Black_draws (nx := 6) rfl l_Black_21 (fun _ => s_Stroke_begin (G := G) (d := 0) (Nat.le_refl _) C I (30 : Int32) p1 hp1) (by omega) rfl (rest := []) rfl (Nat.le_of_ble_eq_true rfl) ⟨Nat.le_of_ble_eq_true rfl, Nat.le_of_ble_eq_true rfl⟩ ?_
  show _ → kW G X m_Black_draws C p1 0 0 6 [.ref q0, .ref 86, .int x2] []
  refine kx_go 3 (pc' := 9) (lv' := [.ref q0, .ref 86, .int x2]) (st' := [.int x2, .ref 86, .ref q0]) hX ok_Black_draws rfl ?_
  refine kx_bind (fun p2 hp2 => ?_)
  refine kx_SU (as := [.ref 86, .int x2]) hq0 hX ok_Black_draws (nx := 12) rfl l_Black_25 (fun _ => s_Stroke_draws (G := G) (d := 1) (Nat.le_refl _) C p1 q0 x2 hq0 p2 hp2) (by omega) rfl (rest := []) rfl (Nat.le_of_ble_eq_true rfl) ⟨Nat.le_of_ble_eq_true rfl, Nat.le_of_ble_eq_true rfl⟩ ?_
  show _ → kW G X m_Black_draws C p2.2 0 0 12 [.ref q0, .ref 86, .int x2] [.int p2.1]
  refine kx_go 2 (pc' := 14) (lv' := [.ref q0, .ref 86, .int x2]) (st' := [.int (p2.1 * (3 : Int32))]) hX ok_Black_draws rfl ?_
  intro h; have h := Option.some.inj h; subst h
  exact kx_iret hX hE ok_Black_draws (nx := 15) rfl rfl ⟨Nat.le_of_ble_eq_true rfl, Nat.le_of_ble_eq_true rfl⟩
def M_Vdraws (C : HC) (I : HI) (q0 : Nat) (x2 : Int32) : Option (Int32 × HI) := if kc C q0 = 0 then M_Stroke_draws I q0 x2 else if kc C q0 = 1 then M_Stroke_draws I q0 x2 else if kc C q0 = 2 then M_Black_draws I q0 x2 else if kc C q0 = 3 then M_Stroke_draws I q0 x2 else if kc C q0 = 4 then M_Stroke_draws I q0 x2 else if kc C q0 = 5 then M_Black_draws I q0 x2 else M_Stroke_draws I q0 x2
theorem s_Vdraws {G : xG} {d : Nat} (hd : 2 ≤ d) (C : HC) (I : HI) (q0 : Nat) (x2 : Int32) (hq0 : gS C q0 = true) (r : Int32 × HI) : M_Vdraws C I q0 x2 = some r → kM G d (sel_draws (kc C q0)) [.ref q0, .ref 86, .int x2] C I 0 0 (some (.int r.1)) C r.2 := by
  unfold M_Vdraws
  refine kx_if (fun h0 => ?_) (fun h0 => ?_)
  · rw [show sel_draws (kc C q0) = m_Stroke_draws by rw [h0]; rfl]
    exact s_Stroke_draws (by omega) C I q0 x2 hq0 _
  ·
    refine kx_if (fun h1 => ?_) (fun h1 => ?_)
    · rw [show sel_draws (kc C q0) = m_Stroke_draws by rw [h1]; rfl]
      exact s_Stroke_draws (by omega) C I q0 x2 hq0 _
    ·
      refine kx_if (fun h2 => ?_) (fun h2 => ?_)
      · rw [show sel_draws (kc C q0) = m_Black_draws by rw [h2]; rfl]
        exact s_Black_draws (by omega) C I q0 x2 hq0 _
      ·
        refine kx_if (fun h3 => ?_) (fun h3 => ?_)
        · rw [show sel_draws (kc C q0) = m_Stroke_draws by rw [h3]; rfl]
          exact s_Stroke_draws (by omega) C I q0 x2 hq0 _
        ·
          refine kx_if (fun h4 => ?_) (fun h4 => ?_)
          · rw [show sel_draws (kc C q0) = m_Stroke_draws by rw [h4]; rfl]
            exact s_Stroke_draws (by omega) C I q0 x2 hq0 _
          ·
            refine kx_if (fun h5 => ?_) (fun h5 => ?_)
            · rw [show sel_draws (kc C q0) = m_Black_draws by rw [h5]; rfl]
              exact s_Black_draws (by omega) C I q0 x2 hq0 _
            ·
              have h6 : kc C q0 = 6 := by have := gS_k hq0; omega
              rw [show sel_draws (kc C q0) = m_Stroke_draws by rw [h6]; rfl]
              exact s_Stroke_draws (by omega) C I q0 x2 hq0 _
def M_Stroke_dries (C : HC) (I : HI) (q0 : Nat) (x2 : Int32) : Option (Int32 × HI) := Option.bind (M_Stroke_begin I (11 : Int32)) fun p1 => Option.bind (M_Vdraws C p1 q0 x2) fun p2 => some ((p2.1 * (2 : Int32)), p2.2)
theorem s_Stroke_dries {G : xG} {d : Nat} (hd : 3 ≤ d) (C : HC) (I : HI) (q0 : Nat) (x2 : Int32) (hq0 : gS C q0 = true) (r : Int32 × HI) : M_Stroke_dries C I q0 x2 = some r → kM G d m_Stroke_dries [.ref q0, .ref 86, .int x2] C I 0 0 (some (.int r.1)) C r.2 := by
  unfold M_Stroke_dries
  refine kM.of (by decide +kernel) (Nat.le_of_ble_eq_true rfl) (lv := [.ref q0, .ref 86, .int x2]) rfl (fun X hX hE => ?_)
  refine kx_go 2 (pc' := 3) (lv' := [.ref q0, .ref 86, .int x2]) (st' := [.int (11 : Int32), .ref 86]) hX ok_Stroke_dries rfl ?_
  refine kx_bind (fun p1 hp1 => ?_)
  refine kx_S (as := [.ref 86, .int (11 : Int32)]) hX ok_Stroke_dries (nx := 6) rfl l_Stroke_33 (fun _ => s_Stroke_begin (G := G) (d := 0) (Nat.le_refl _) C I (11 : Int32) p1 hp1) (by omega) rfl (rest := []) rfl (Nat.le_of_ble_eq_true rfl) ⟨Nat.le_of_ble_eq_true rfl, Nat.le_of_ble_eq_true rfl⟩ ?_
  show _ → kW G X m_Stroke_dries C p1 0 0 6 [.ref q0, .ref 86, .int x2] []
  refine kx_go 3 (pc' := 9) (lv' := [.ref q0, .ref 86, .int x2]) (st' := [.int x2, .ref 86, .ref q0]) hX ok_Stroke_dries rfl ?_
  refine kx_bind (fun p2 hp2 => ?_)
  refine kx_U (as := [.ref 86, .int x2]) hq0 hX ok_Stroke_dries (nx := 12) rfl (l_Stroke_37 (gS_k hq0)) (fun _ => s_Vdraws (G := G) (d := 2) (Nat.le_refl _) C p1 q0 x2 hq0 p2 hp2) (by omega) rfl (rest := []) rfl (Nat.le_of_ble_eq_true rfl) ⟨Nat.le_of_ble_eq_true rfl, Nat.le_of_ble_eq_true rfl⟩ ?_
  show _ → kW G X m_Stroke_dries C p2.2 0 0 12 [.ref q0, .ref 86, .int x2] [.int p2.1]
  refine kx_go 2 (pc' := 14) (lv' := [.ref q0, .ref 86, .int x2]) (st' := [.int (p2.1 * (2 : Int32))]) hX ok_Stroke_dries rfl ?_
  intro h; have h := Option.some.inj h; subst h
  exact kx_iret hX hE ok_Stroke_dries (nx := 15) rfl rfl ⟨Nat.le_of_ble_eq_true rfl, Nat.le_of_ble_eq_true rfl⟩
def M_Stroke_peels (I : HI) (q0 : Nat) (x2 : Int32) : Option (Int32 × HI) := Option.bind (M_Stroke_begin I (12 : Int32)) fun p1 => some ((x2 - (p1 q0 1)), p1)
theorem s_Stroke_peels {G : xG} {d : Nat} (hd : 1 ≤ d) (C : HC) (I : HI) (q0 : Nat) (x2 : Int32) (hq0 : gS C q0 = true) (r : Int32 × HI) : M_Stroke_peels I q0 x2 = some r → kM G d m_Stroke_peels [.ref q0, .ref 86, .int x2] C I 0 0 (some (.int r.1)) C r.2 := by
  unfold M_Stroke_peels
  refine kM.of (by decide +kernel) (Nat.le_of_ble_eq_true rfl) (lv := [.ref q0, .ref 86, .int x2]) rfl (fun X hX hE => ?_)
  refine kx_go 2 (pc' := 3) (lv' := [.ref q0, .ref 86, .int x2]) (st' := [.int (12 : Int32), .ref 86]) hX ok_Stroke_peels rfl ?_
  refine kx_bind (fun p1 hp1 => ?_)
  refine kx_S (as := [.ref 86, .int (12 : Int32)]) hX ok_Stroke_peels (nx := 6) rfl l_Stroke_33 (fun _ => s_Stroke_begin (G := G) (d := 0) (Nat.le_refl _) C I (12 : Int32) p1 hp1) (by omega) rfl (rest := []) rfl (Nat.le_of_ble_eq_true rfl) ⟨Nat.le_of_ble_eq_true rfl, Nat.le_of_ble_eq_true rfl⟩ ?_
  show _ → kW G X m_Stroke_peels C p1 0 0 6 [.ref q0, .ref 86, .int x2] []
  refine kx_go 2 (pc' := 8) (lv' := [.ref q0, .ref 86, .int x2]) (st' := [.ref q0, .int x2]) hX ok_Stroke_peels rfl ?_
  refine kx_gets hq0 hX ok_Stroke_peels rfl (k := 1) (nx := 11) rfl ?_
  refine kx_go 1 (pc' := 12) (lv' := [.ref q0, .ref 86, .int x2]) (st' := [.int (x2 - (p1 q0 1))]) hX ok_Stroke_peels rfl ?_
  intro h; have h := Option.some.inj h; subst h
  exact kx_iret hX hE ok_Stroke_peels (nx := 13) rfl rfl ⟨Nat.le_of_ble_eq_true rfl, Nat.le_of_ble_eq_true rfl⟩
def M_Red_dries (C : HC) (I : HI) (q0 : Nat) (x2 : Int32) : Option (Int32 × HI) := Option.bind (M_Stroke_begin I (20 : Int32)) fun p1 => Option.bind (M_Stroke_dries C p1 q0 x2) fun p2 => Option.bind (M_Stroke_peels p2.2 q0 (1 : Int32)) fun p3 => some ((p2.1 - p3.1), p3.2)
theorem s_Red_dries {G : xG} {d : Nat} (hd : 4 ≤ d) (C : HC) (I : HI) (q0 : Nat) (x2 : Int32) (hq0 : gS C q0 = true) (hc0 : kc C q0 = 1 ∨ kc C q0 = 4) (r : Int32 × HI) : M_Red_dries C I q0 x2 = some r → kM G d m_Red_dries [.ref q0, .ref 86, .int x2] C I 0 0 (some (.int r.1)) C r.2 := by
  unfold M_Red_dries
  refine kM.of (by decide +kernel) (Nat.le_of_ble_eq_true rfl) (lv := [.ref q0, .ref 86, .int x2]) rfl (fun X hX hE => ?_)
  refine kx_go 2 (pc' := 3) (lv' := [.ref q0, .ref 86, .int x2]) (st' := [.int (20 : Int32), .ref 86]) hX ok_Red_dries rfl ?_
  refine kx_bind (fun p1 hp1 => ?_)
  refine kx_SS (as := [.ref 86, .int (20 : Int32)]) hX ok_Red_dries (nx := 6) rfl l_Red_24 (fun _ => s_Stroke_begin (G := G) (d := 0) (Nat.le_refl _) C I (20 : Int32) p1 hp1) (by omega) rfl (rest := []) rfl (Nat.le_of_ble_eq_true rfl) ⟨Nat.le_of_ble_eq_true rfl, Nat.le_of_ble_eq_true rfl⟩ ?_
  show _ → kW G X m_Red_dries C p1 0 0 6 [.ref q0, .ref 86, .int x2] []
  refine kx_go 3 (pc' := 9) (lv' := [.ref q0, .ref 86, .int x2]) (st' := [.int x2, .ref 86, .ref q0]) hX ok_Red_dries rfl ?_
  refine kx_bind (fun p2 hp2 => ?_)
  refine kx_SU (as := [.ref 86, .int x2]) hq0 hX ok_Red_dries (nx := 12) rfl l_Red_28 (fun _ => s_Stroke_dries (G := G) (d := 3) (Nat.le_refl _) C p1 q0 x2 hq0 p2 hp2) (by omega) rfl (rest := []) rfl (Nat.le_of_ble_eq_true rfl) ⟨Nat.le_of_ble_eq_true rfl, Nat.le_of_ble_eq_true rfl⟩ ?_
  show _ → kW G X m_Red_dries C p2.2 0 0 12 [.ref q0, .ref 86, .int x2] [.int p2.1]
  refine kx_go 3 (pc' := 15) (lv' := [.ref q0, .ref 86, .int x2]) (st' := [.int (1 : Int32), .ref 86, .ref q0, .int p2.1]) hX ok_Red_dries rfl ?_
  refine kx_bind (fun p3 hp3 => ?_)
  refine kx_U (as := [.ref 86, .int (1 : Int32)]) hq0 hX ok_Red_dries (nx := 18) rfl (l_Red_32 hc0) (fun _ => s_Stroke_peels (G := G) (d := 1) (Nat.le_refl _) C p2.2 q0 (1 : Int32) hq0 p3 hp3) (by omega) rfl (rest := [.int p2.1]) rfl (Nat.le_of_ble_eq_true rfl) ⟨Nat.le_of_ble_eq_true rfl, Nat.le_of_ble_eq_true rfl⟩ ?_
  show _ → kW G X m_Red_dries C p3.2 0 0 18 [.ref q0, .ref 86, .int x2] [.int p3.1, .int p2.1]
  refine kx_go 1 (pc' := 19) (lv' := [.ref q0, .ref 86, .int x2]) (st' := [.int (p2.1 - p3.1)]) hX ok_Red_dries rfl ?_
  intro h; have h := Option.some.inj h; subst h
  exact kx_iret hX hE ok_Red_dries (nx := 20) rfl rfl ⟨Nat.le_of_ble_eq_true rfl, Nat.le_of_ble_eq_true rfl⟩
def M_Child_dries (C : HC) (I : HI) (q0 : Nat) (x2 : Int32) : Option (Int32 × HI) := Option.bind (M_Stroke_begin I (50 : Int32)) fun p1 => Option.bind (M_Red_dries C p1 q0 (x2 + (1 : Int32))) fun p2 => some (p2.1, p2.2)
theorem s_Child_dries {G : xG} {d : Nat} (hd : 5 ≤ d) (C : HC) (I : HI) (q0 : Nat) (x2 : Int32) (hq0 : gS C q0 = true) (hc0 : kc C q0 = 4) (r : Int32 × HI) : M_Child_dries C I q0 x2 = some r → kM G d m_Child_dries [.ref q0, .ref 86, .int x2] C I 0 0 (some (.int r.1)) C r.2 := by
  unfold M_Child_dries
  refine kM.of (by decide +kernel) (Nat.le_of_ble_eq_true rfl) (lv := [.ref q0, .ref 86, .int x2]) rfl (fun X hX hE => ?_)
  refine kx_go 2 (pc' := 3) (lv' := [.ref q0, .ref 86, .int x2]) (st' := [.int (50 : Int32), .ref 86]) hX ok_Child_dries rfl ?_
  refine kx_bind (fun p1 hp1 => ?_)
  refine kx_SS (as := [.ref 86, .int (50 : Int32)]) hX ok_Child_dries (nx := 6) rfl l_Child_24 (fun _ => s_Stroke_begin (G := G) (d := 0) (Nat.le_refl _) C I (50 : Int32) p1 hp1) (by omega) rfl (rest := []) rfl (Nat.le_of_ble_eq_true rfl) ⟨Nat.le_of_ble_eq_true rfl, Nat.le_of_ble_eq_true rfl⟩ ?_
  show _ → kW G X m_Child_dries C p1 0 0 6 [.ref q0, .ref 86, .int x2] []
  refine kx_go 5 (pc' := 11) (lv' := [.ref q0, .ref 86, .int x2]) (st' := [.int (x2 + (1 : Int32)), .ref 86, .ref q0]) hX ok_Child_dries rfl ?_
  refine kx_bind (fun p2 hp2 => ?_)
  refine kx_SU (as := [.ref 86, .int (x2 + (1 : Int32))]) hq0 hX ok_Child_dries (nx := 14) rfl l_Child_28 (fun _ => s_Red_dries (G := G) (d := 4) (Nat.le_refl _) C p1 q0 (x2 + (1 : Int32)) hq0 (Or.inr hc0) p2 hp2) (by omega) rfl (rest := []) rfl (Nat.le_of_ble_eq_true rfl) ⟨Nat.le_of_ble_eq_true rfl, Nat.le_of_ble_eq_true rfl⟩ ?_
  show _ → kW G X m_Child_dries C p2.2 0 0 14 [.ref q0, .ref 86, .int x2] [.int p2.1]
  intro h; have h := Option.some.inj h; subst h
  exact kx_iret hX hE ok_Child_dries (nx := 15) rfl rfl ⟨Nat.le_of_ble_eq_true rfl, Nat.le_of_ble_eq_true rfl⟩
def M_Vdries (C : HC) (I : HI) (q0 : Nat) (x2 : Int32) : Option (Int32 × HI) := if kc C q0 = 0 then M_Stroke_dries C I q0 x2 else if kc C q0 = 1 then M_Red_dries C I q0 x2 else if kc C q0 = 2 then M_Stroke_dries C I q0 x2 else if kc C q0 = 3 then M_Stroke_dries C I q0 x2 else if kc C q0 = 4 then M_Child_dries C I q0 x2 else if kc C q0 = 5 then M_Stroke_dries C I q0 x2 else M_Stroke_dries C I q0 x2
theorem s_Vdries {G : xG} {d : Nat} (hd : 5 ≤ d) (C : HC) (I : HI) (q0 : Nat) (x2 : Int32) (hq0 : gS C q0 = true) (r : Int32 × HI) : M_Vdries C I q0 x2 = some r → kM G d (sel_dries (kc C q0)) [.ref q0, .ref 86, .int x2] C I 0 0 (some (.int r.1)) C r.2 := by
  unfold M_Vdries
  refine kx_if (fun h0 => ?_) (fun h0 => ?_)
  · rw [show sel_dries (kc C q0) = m_Stroke_dries by rw [h0]; rfl]
    exact s_Stroke_dries (by omega) C I q0 x2 hq0 _
  ·
    refine kx_if (fun h1 => ?_) (fun h1 => ?_)
    · rw [show sel_dries (kc C q0) = m_Red_dries by rw [h1]; rfl]
      exact s_Red_dries (by omega) C I q0 x2 hq0 (Or.inl h1) _
    ·
      refine kx_if (fun h2 => ?_) (fun h2 => ?_)
      · rw [show sel_dries (kc C q0) = m_Stroke_dries by rw [h2]; rfl]
        exact s_Stroke_dries (by omega) C I q0 x2 hq0 _
      ·
        refine kx_if (fun h3 => ?_) (fun h3 => ?_)
        · rw [show sel_dries (kc C q0) = m_Stroke_dries by rw [h3]; rfl]
          exact s_Stroke_dries (by omega) C I q0 x2 hq0 _
        ·
          refine kx_if (fun h4 => ?_) (fun h4 => ?_)
          · rw [show sel_dries (kc C q0) = m_Child_dries by rw [h4]; rfl]
            exact s_Child_dries (by omega) C I q0 x2 hq0 h4 _
          ·
            refine kx_if (fun h5 => ?_) (fun h5 => ?_)
            · rw [show sel_dries (kc C q0) = m_Stroke_dries by rw [h5]; rfl]
              exact s_Stroke_dries (by omega) C I q0 x2 hq0 _
            ·
              have h6 : kc C q0 = 6 := by have := gS_k hq0; omega
              rw [show sel_dries (kc C q0) = m_Stroke_dries by rw [h6]; rfl]
              exact s_Stroke_dries (by omega) C I q0 x2 hq0 _
def M_Scratch_peels (I : HI) (q0 : Nat) (x2 : Int32) : Option (Int32 × HI) := Option.bind (M_Stroke_begin I (40 : Int32)) fun p1 => Option.bind (M_Stroke_peels p1 q0 x2) fun p2 => some ((-p2.1), p2.2)
theorem s_Scratch_peels {G : xG} {d : Nat} (hd : 2 ≤ d) (C : HC) (I : HI) (q0 : Nat) (x2 : Int32) (hq0 : gS C q0 = true) (r : Int32 × HI) : M_Scratch_peels I q0 x2 = some r → kM G d m_Scratch_peels [.ref q0, .ref 86, .int x2] C I 0 0 (some (.int r.1)) C r.2 := by
  unfold M_Scratch_peels
  refine kM.of (by decide +kernel) (Nat.le_of_ble_eq_true rfl) (lv := [.ref q0, .ref 86, .int x2]) rfl (fun X hX hE => ?_)
  refine kx_go 2 (pc' := 3) (lv' := [.ref q0, .ref 86, .int x2]) (st' := [.int (40 : Int32), .ref 86]) hX ok_Scratch_peels rfl ?_
  refine kx_bind (fun p1 hp1 => ?_)
  refine kx_SS (as := [.ref 86, .int (40 : Int32)]) hX ok_Scratch_peels (nx := 6) rfl l_Scratch_21 (fun _ => s_Stroke_begin (G := G) (d := 0) (Nat.le_refl _) C I (40 : Int32) p1 hp1) (by omega) rfl (rest := []) rfl (Nat.le_of_ble_eq_true rfl) ⟨Nat.le_of_ble_eq_true rfl, Nat.le_of_ble_eq_true rfl⟩ ?_
  show _ → kW G X m_Scratch_peels C p1 0 0 6 [.ref q0, .ref 86, .int x2] []
  refine kx_go 3 (pc' := 9) (lv' := [.ref q0, .ref 86, .int x2]) (st' := [.int x2, .ref 86, .ref q0]) hX ok_Scratch_peels rfl ?_
  refine kx_bind (fun p2 hp2 => ?_)
  refine kx_SU (as := [.ref 86, .int x2]) hq0 hX ok_Scratch_peels (nx := 12) rfl l_Scratch_25 (fun _ => s_Stroke_peels (G := G) (d := 1) (Nat.le_refl _) C p1 q0 x2 hq0 p2 hp2) (by omega) rfl (rest := []) rfl (Nat.le_of_ble_eq_true rfl) ⟨Nat.le_of_ble_eq_true rfl, Nat.le_of_ble_eq_true rfl⟩ ?_
  show _ → kW G X m_Scratch_peels C p2.2 0 0 12 [.ref q0, .ref 86, .int x2] [.int p2.1]
  refine kx_go 1 (pc' := 13) (lv' := [.ref q0, .ref 86, .int x2]) (st' := [.int (-p2.1)]) hX ok_Scratch_peels rfl ?_
  intro h; have h := Option.some.inj h; subst h
  exact kx_iret hX hE ok_Scratch_peels (nx := 14) rfl rfl ⟨Nat.le_of_ble_eq_true rfl, Nat.le_of_ble_eq_true rfl⟩
def M_Forged_peels (I : HI) (q0 : Nat) (x2 : Int32) : Option (Int32 × HI) := Option.bind (M_Stroke_begin I (70 : Int32)) fun p1 => Option.bind (M_Scratch_peels p1 q0 x2) fun p2 => some ((p2.1 ^^^ (p2.2 q0 0)), p2.2)
theorem s_Forged_peels {G : xG} {d : Nat} (hd : 3 ≤ d) (C : HC) (I : HI) (q0 : Nat) (x2 : Int32) (hq0 : gS C q0 = true) (r : Int32 × HI) : M_Forged_peels I q0 x2 = some r → kM G d m_Forged_peels [.ref q0, .ref 86, .int x2] C I 0 0 (some (.int r.1)) C r.2 := by
  unfold M_Forged_peels
  refine kM.of (by decide +kernel) (Nat.le_of_ble_eq_true rfl) (lv := [.ref q0, .ref 86, .int x2]) rfl (fun X hX hE => ?_)
  refine kx_go 2 (pc' := 3) (lv' := [.ref q0, .ref 86, .int x2]) (st' := [.int (70 : Int32), .ref 86]) hX ok_Forged_peels rfl ?_
  refine kx_bind (fun p1 hp1 => ?_)
  refine kx_SS (as := [.ref 86, .int (70 : Int32)]) hX ok_Forged_peels (nx := 6) rfl l_Forged_32 (fun _ => s_Stroke_begin (G := G) (d := 0) (Nat.le_refl _) C I (70 : Int32) p1 hp1) (by omega) rfl (rest := []) rfl (Nat.le_of_ble_eq_true rfl) ⟨Nat.le_of_ble_eq_true rfl, Nat.le_of_ble_eq_true rfl⟩ ?_
  show _ → kW G X m_Forged_peels C p1 0 0 6 [.ref q0, .ref 86, .int x2] []
  refine kx_go 3 (pc' := 9) (lv' := [.ref q0, .ref 86, .int x2]) (st' := [.int x2, .ref 86, .ref q0]) hX ok_Forged_peels rfl ?_
  refine kx_bind (fun p2 hp2 => ?_)
  refine kx_SU (as := [.ref 86, .int x2]) hq0 hX ok_Forged_peels (nx := 12) rfl l_Forged_36 (fun _ => s_Scratch_peels (G := G) (d := 2) (Nat.le_refl _) C p1 q0 x2 hq0 p2 hp2) (by omega) rfl (rest := []) rfl (Nat.le_of_ble_eq_true rfl) ⟨Nat.le_of_ble_eq_true rfl, Nat.le_of_ble_eq_true rfl⟩ ?_
  show _ → kW G X m_Forged_peels C p2.2 0 0 12 [.ref q0, .ref 86, .int x2] [.int p2.1]
  refine kx_go 1 (pc' := 13) (lv' := [.ref q0, .ref 86, .int x2]) (st' := [.ref q0, .int p2.1]) hX ok_Forged_peels rfl ?_
  refine kx_gets hq0 hX ok_Forged_peels rfl (k := 0) (nx := 16) rfl ?_
  refine kx_go 1 (pc' := 17) (lv' := [.ref q0, .ref 86, .int x2]) (st' := [.int (p2.1 ^^^ (p2.2 q0 0))]) hX ok_Forged_peels rfl ?_
  intro h; have h := Option.some.inj h; subst h
  exact kx_iret hX hE ok_Forged_peels (nx := 18) rfl rfl ⟨Nat.le_of_ble_eq_true rfl, Nat.le_of_ble_eq_true rfl⟩
def M_Vpeels (C : HC) (I : HI) (q0 : Nat) (x2 : Int32) : Option (Int32 × HI) := if kc C q0 = 0 then M_Stroke_peels I q0 x2 else if kc C q0 = 1 then M_Stroke_peels I q0 x2 else if kc C q0 = 2 then M_Stroke_peels I q0 x2 else if kc C q0 = 3 then M_Scratch_peels I q0 x2 else if kc C q0 = 4 then M_Stroke_peels I q0 x2 else if kc C q0 = 5 then M_Stroke_peels I q0 x2 else M_Forged_peels I q0 x2
theorem s_Vpeels {G : xG} {d : Nat} (hd : 3 ≤ d) (C : HC) (I : HI) (q0 : Nat) (x2 : Int32) (hq0 : gS C q0 = true) (r : Int32 × HI) : M_Vpeels C I q0 x2 = some r → kM G d (sel_peels (kc C q0)) [.ref q0, .ref 86, .int x2] C I 0 0 (some (.int r.1)) C r.2 := by
  unfold M_Vpeels
  refine kx_if (fun h0 => ?_) (fun h0 => ?_)
  · rw [show sel_peels (kc C q0) = m_Stroke_peels by rw [h0]; rfl]
    exact s_Stroke_peels (by omega) C I q0 x2 hq0 _
  ·
    refine kx_if (fun h1 => ?_) (fun h1 => ?_)
    · rw [show sel_peels (kc C q0) = m_Stroke_peels by rw [h1]; rfl]
      exact s_Stroke_peels (by omega) C I q0 x2 hq0 _
    ·
      refine kx_if (fun h2 => ?_) (fun h2 => ?_)
      · rw [show sel_peels (kc C q0) = m_Stroke_peels by rw [h2]; rfl]
        exact s_Stroke_peels (by omega) C I q0 x2 hq0 _
      ·
        refine kx_if (fun h3 => ?_) (fun h3 => ?_)
        · rw [show sel_peels (kc C q0) = m_Scratch_peels by rw [h3]; rfl]
          exact s_Scratch_peels (by omega) C I q0 x2 hq0 _
        ·
          refine kx_if (fun h4 => ?_) (fun h4 => ?_)
          · rw [show sel_peels (kc C q0) = m_Stroke_peels by rw [h4]; rfl]
            exact s_Stroke_peels (by omega) C I q0 x2 hq0 _
          ·
            refine kx_if (fun h5 => ?_) (fun h5 => ?_)
            · rw [show sel_peels (kc C q0) = m_Stroke_peels by rw [h5]; rfl]
              exact s_Stroke_peels (by omega) C I q0 x2 hq0 _
            ·
              have h6 : kc C q0 = 6 := by have := gS_k hq0; omega
              rw [show sel_peels (kc C q0) = m_Forged_peels by rw [h6]; rfl]
              exact s_Forged_peels (by omega) C I q0 x2 hq0 _
def M_Stroke_tells (C : HC) (I : HI) (q0 : Nat) (x2 : Int32) : Option (Int32 × HI) := Option.bind (M_Stroke_begin I (13 : Int32)) fun p1 => Option.bind (M_Vdries C p1 q0 x2) fun p2 => Option.bind (M_Vpeels C p2.2 q0 x2) fun p3 => some ((p2.1 ^^^ p3.1), p3.2)
theorem s_Stroke_tells {G : xG} {d : Nat} (hd : 6 ≤ d) (C : HC) (I : HI) (q0 : Nat) (x2 : Int32) (hq0 : gS C q0 = true) (r : Int32 × HI) : M_Stroke_tells C I q0 x2 = some r → kM G d m_Stroke_tells [.ref q0, .ref 86, .int x2] C I 0 0 (some (.int r.1)) C r.2 := by
  unfold M_Stroke_tells
  refine kM.of (by decide +kernel) (Nat.le_of_ble_eq_true rfl) (lv := [.ref q0, .ref 86, .int x2]) rfl (fun X hX hE => ?_)
  refine kx_go 2 (pc' := 3) (lv' := [.ref q0, .ref 86, .int x2]) (st' := [.int (13 : Int32), .ref 86]) hX ok_Stroke_tells rfl ?_
  refine kx_bind (fun p1 hp1 => ?_)
  refine kx_S (as := [.ref 86, .int (13 : Int32)]) hX ok_Stroke_tells (nx := 6) rfl l_Stroke_33 (fun _ => s_Stroke_begin (G := G) (d := 0) (Nat.le_refl _) C I (13 : Int32) p1 hp1) (by omega) rfl (rest := []) rfl (Nat.le_of_ble_eq_true rfl) ⟨Nat.le_of_ble_eq_true rfl, Nat.le_of_ble_eq_true rfl⟩ ?_
  show _ → kW G X m_Stroke_tells C p1 0 0 6 [.ref q0, .ref 86, .int x2] []
  refine kx_go 3 (pc' := 9) (lv' := [.ref q0, .ref 86, .int x2]) (st' := [.int x2, .ref 86, .ref q0]) hX ok_Stroke_tells rfl ?_
  refine kx_bind (fun p2 hp2 => ?_)
  refine kx_U (as := [.ref 86, .int x2]) hq0 hX ok_Stroke_tells (nx := 12) rfl (l_Stroke_41 (gS_k hq0)) (fun _ => s_Vdries (G := G) (d := 5) (Nat.le_refl _) C p1 q0 x2 hq0 p2 hp2) (by omega) rfl (rest := []) rfl (Nat.le_of_ble_eq_true rfl) ⟨Nat.le_of_ble_eq_true rfl, Nat.le_of_ble_eq_true rfl⟩ ?_
  show _ → kW G X m_Stroke_tells C p2.2 0 0 12 [.ref q0, .ref 86, .int x2] [.int p2.1]
  refine kx_go 3 (pc' := 15) (lv' := [.ref q0, .ref 86, .int x2]) (st' := [.int x2, .ref 86, .ref q0, .int p2.1]) hX ok_Stroke_tells rfl ?_
  refine kx_bind (fun p3 hp3 => ?_)
  refine kx_U (as := [.ref 86, .int x2]) hq0 hX ok_Stroke_tells (nx := 18) rfl (l_Stroke_44 (gS_k hq0)) (fun _ => s_Vpeels (G := G) (d := 3) (Nat.le_refl _) C p2.2 q0 x2 hq0 p3 hp3) (by omega) rfl (rest := [.int p2.1]) rfl (Nat.le_of_ble_eq_true rfl) ⟨Nat.le_of_ble_eq_true rfl, Nat.le_of_ble_eq_true rfl⟩ ?_
  show _ → kW G X m_Stroke_tells C p3.2 0 0 18 [.ref q0, .ref 86, .int x2] [.int p3.1, .int p2.1]
  refine kx_go 1 (pc' := 19) (lv' := [.ref q0, .ref 86, .int x2]) (st' := [.int (p2.1 ^^^ p3.1)]) hX ok_Stroke_tells rfl ?_
  intro h; have h := Option.some.inj h; subst h
  exact kx_iret hX hE ok_Stroke_tells (nx := 20) rfl rfl ⟨Nat.le_of_ble_eq_true rfl, Nat.le_of_ble_eq_true rfl⟩
def M_Soot_tells (C : HC) (I : HI) (q0 : Nat) (x2 : Int32) : Option (Int32 × HI) := Option.bind (M_Stroke_begin I (60 : Int32)) fun p1 => Option.bind (M_Stroke_tells C p1 q0 x2) fun p2 => Option.bind (M_Black_draws p2.2 q0 (2 : Int32)) fun p3 => some ((p2.1 - p3.1), p3.2)
theorem s_Soot_tells {G : xG} {d : Nat} (hd : 7 ≤ d) (C : HC) (I : HI) (q0 : Nat) (x2 : Int32) (hq0 : gS C q0 = true) (hc0 : kc C q0 = 5) (r : Int32 × HI) : M_Soot_tells C I q0 x2 = some r → kM G d m_Soot_tells [.ref q0, .ref 86, .int x2] C I 0 0 (some (.int r.1)) C r.2 := by
  unfold M_Soot_tells
  refine kM.of (by decide +kernel) (Nat.le_of_ble_eq_true rfl) (lv := [.ref q0, .ref 86, .int x2]) rfl (fun X hX hE => ?_)
  refine kx_go 2 (pc' := 3) (lv' := [.ref q0, .ref 86, .int x2]) (st' := [.int (60 : Int32), .ref 86]) hX ok_Soot_tells rfl ?_
  refine kx_bind (fun p1 hp1 => ?_)
  refine kx_SS (as := [.ref 86, .int (60 : Int32)]) hX ok_Soot_tells (nx := 6) rfl l_Soot_27 (fun _ => s_Stroke_begin (G := G) (d := 0) (Nat.le_refl _) C I (60 : Int32) p1 hp1) (by omega) rfl (rest := []) rfl (Nat.le_of_ble_eq_true rfl) ⟨Nat.le_of_ble_eq_true rfl, Nat.le_of_ble_eq_true rfl⟩ ?_
  show _ → kW G X m_Soot_tells C p1 0 0 6 [.ref q0, .ref 86, .int x2] []
  refine kx_go 3 (pc' := 9) (lv' := [.ref q0, .ref 86, .int x2]) (st' := [.int x2, .ref 86, .ref q0]) hX ok_Soot_tells rfl ?_
  refine kx_bind (fun p2 hp2 => ?_)
  refine kx_SX (as := [.ref 86, .int x2]) hq0 hX ok_Soot_tells (nx := 12) rfl l_Soot_31 (fun _ => s_Stroke_tells (G := G) (d := 6) (Nat.le_refl _) C p1 q0 x2 hq0 p2 hp2) (by omega) rfl (rest := []) rfl (Nat.le_of_ble_eq_true rfl) ⟨Nat.le_of_ble_eq_true rfl, Nat.le_of_ble_eq_true rfl⟩ ?_
  show _ → kW G X m_Soot_tells C p2.2 0 0 12 [.ref q0, .ref 86, .int x2] [.int p2.1]
  refine kx_go 3 (pc' := 15) (lv' := [.ref q0, .ref 86, .int x2]) (st' := [.int (2 : Int32), .ref 86, .ref q0, .int p2.1]) hX ok_Soot_tells rfl ?_
  refine kx_bind (fun p3 hp3 => ?_)
  refine kx_U (as := [.ref 86, .int (2 : Int32)]) hq0 hX ok_Soot_tells (nx := 18) rfl (l_Soot_35 hc0) (fun _ => s_Black_draws (G := G) (d := 2) (Nat.le_refl _) C p2.2 q0 (2 : Int32) hq0 p3 hp3) (by omega) rfl (rest := [.int p2.1]) rfl (Nat.le_of_ble_eq_true rfl) ⟨Nat.le_of_ble_eq_true rfl, Nat.le_of_ble_eq_true rfl⟩ ?_
  show _ → kW G X m_Soot_tells C p3.2 0 0 18 [.ref q0, .ref 86, .int x2] [.int p3.1, .int p2.1]
  refine kx_go 1 (pc' := 19) (lv' := [.ref q0, .ref 86, .int x2]) (st' := [.int (p2.1 - p3.1)]) hX ok_Soot_tells rfl ?_
  intro h; have h := Option.some.inj h; subst h
  exact kx_iret hX hE ok_Soot_tells (nx := 20) rfl rfl ⟨Nat.le_of_ble_eq_true rfl, Nat.le_of_ble_eq_true rfl⟩
def M_Forged_tells (C : HC) (I : HI) (q0 : Nat) (x2 : Int32) : Option (Int32 × HI) := Option.bind (M_Stroke_begin I (71 : Int32)) fun p1 => Option.bind (M_Stroke_dries C p1 q0 x2) fun p2 => Option.bind (M_Stroke_tells C p2.2 q0 x2) fun p3 => some ((p2.1 - p3.1), p3.2)
theorem s_Forged_tells {G : xG} {d : Nat} (hd : 7 ≤ d) (C : HC) (I : HI) (q0 : Nat) (x2 : Int32) (hq0 : gS C q0 = true) (hc0 : kc C q0 = 6) (r : Int32 × HI) : M_Forged_tells C I q0 x2 = some r → kM G d m_Forged_tells [.ref q0, .ref 86, .int x2] C I 0 0 (some (.int r.1)) C r.2 := by
  unfold M_Forged_tells
  refine kM.of (by decide +kernel) (Nat.le_of_ble_eq_true rfl) (lv := [.ref q0, .ref 86, .int x2]) rfl (fun X hX hE => ?_)
  refine kx_go 2 (pc' := 3) (lv' := [.ref q0, .ref 86, .int x2]) (st' := [.int (71 : Int32), .ref 86]) hX ok_Forged_tells rfl ?_
  refine kx_bind (fun p1 hp1 => ?_)
  refine kx_SS (as := [.ref 86, .int (71 : Int32)]) hX ok_Forged_tells (nx := 6) rfl l_Forged_32 (fun _ => s_Stroke_begin (G := G) (d := 0) (Nat.le_refl _) C I (71 : Int32) p1 hp1) (by omega) rfl (rest := []) rfl (Nat.le_of_ble_eq_true rfl) ⟨Nat.le_of_ble_eq_true rfl, Nat.le_of_ble_eq_true rfl⟩ ?_
  show _ → kW G X m_Forged_tells C p1 0 0 6 [.ref q0, .ref 86, .int x2] []
  refine kx_go 3 (pc' := 9) (lv' := [.ref q0, .ref 86, .int x2]) (st' := [.int x2, .ref 86, .ref q0]) hX ok_Forged_tells rfl ?_
  refine kx_bind (fun p2 hp2 => ?_)
  refine kx_U (as := [.ref 86, .int x2]) hq0 hX ok_Forged_tells (nx := 12) rfl (l_Forged_43 hc0) (fun _ => s_Stroke_dries (G := G) (d := 3) (Nat.le_refl _) C p1 q0 x2 hq0 p2 hp2) (by omega) rfl (rest := []) rfl (Nat.le_of_ble_eq_true rfl) ⟨Nat.le_of_ble_eq_true rfl, Nat.le_of_ble_eq_true rfl⟩ ?_
  show _ → kW G X m_Forged_tells C p2.2 0 0 12 [.ref q0, .ref 86, .int x2] [.int p2.1]
  refine kx_go 3 (pc' := 15) (lv' := [.ref q0, .ref 86, .int x2]) (st' := [.int x2, .ref 86, .ref q0, .int p2.1]) hX ok_Forged_tells rfl ?_
  refine kx_bind (fun p3 hp3 => ?_)
  refine kx_SX (as := [.ref 86, .int x2]) hq0 hX ok_Forged_tells (nx := 18) rfl l_Forged_46 (fun _ => s_Stroke_tells (G := G) (d := 6) (Nat.le_refl _) C p2.2 q0 x2 hq0 p3 hp3) (by omega) rfl (rest := [.int p2.1]) rfl (Nat.le_of_ble_eq_true rfl) ⟨Nat.le_of_ble_eq_true rfl, Nat.le_of_ble_eq_true rfl⟩ ?_
  show _ → kW G X m_Forged_tells C p3.2 0 0 18 [.ref q0, .ref 86, .int x2] [.int p3.1, .int p2.1]
  refine kx_go 1 (pc' := 19) (lv' := [.ref q0, .ref 86, .int x2]) (st' := [.int (p2.1 - p3.1)]) hX ok_Forged_tells rfl ?_
  intro h; have h := Option.some.inj h; subst h
  exact kx_iret hX hE ok_Forged_tells (nx := 20) rfl rfl ⟨Nat.le_of_ble_eq_true rfl, Nat.le_of_ble_eq_true rfl⟩
def M_Vtells (C : HC) (I : HI) (q0 : Nat) (x2 : Int32) : Option (Int32 × HI) := if kc C q0 = 0 then M_Stroke_tells C I q0 x2 else if kc C q0 = 1 then M_Stroke_tells C I q0 x2 else if kc C q0 = 2 then M_Stroke_tells C I q0 x2 else if kc C q0 = 3 then M_Stroke_tells C I q0 x2 else if kc C q0 = 4 then M_Stroke_tells C I q0 x2 else if kc C q0 = 5 then M_Soot_tells C I q0 x2 else M_Forged_tells C I q0 x2
theorem s_Vtells {G : xG} {d : Nat} (hd : 7 ≤ d) (C : HC) (I : HI) (q0 : Nat) (x2 : Int32) (hq0 : gS C q0 = true) (r : Int32 × HI) : M_Vtells C I q0 x2 = some r → kM G d (sel_tells (kc C q0)) [.ref q0, .ref 86, .int x2] C I 0 0 (some (.int r.1)) C r.2 := by
  unfold M_Vtells
  refine kx_if (fun h0 => ?_) (fun h0 => ?_)
  · rw [show sel_tells (kc C q0) = m_Stroke_tells by rw [h0]; rfl]
    exact s_Stroke_tells (by omega) C I q0 x2 hq0 _
  ·
    refine kx_if (fun h1 => ?_) (fun h1 => ?_)
    · rw [show sel_tells (kc C q0) = m_Stroke_tells by rw [h1]; rfl]
      exact s_Stroke_tells (by omega) C I q0 x2 hq0 _
    ·
      refine kx_if (fun h2 => ?_) (fun h2 => ?_)
      · rw [show sel_tells (kc C q0) = m_Stroke_tells by rw [h2]; rfl]
        exact s_Stroke_tells (by omega) C I q0 x2 hq0 _
      ·
        refine kx_if (fun h3 => ?_) (fun h3 => ?_)
        · rw [show sel_tells (kc C q0) = m_Stroke_tells by rw [h3]; rfl]
          exact s_Stroke_tells (by omega) C I q0 x2 hq0 _
        ·
          refine kx_if (fun h4 => ?_) (fun h4 => ?_)
          · rw [show sel_tells (kc C q0) = m_Stroke_tells by rw [h4]; rfl]
            exact s_Stroke_tells (by omega) C I q0 x2 hq0 _
          ·
            refine kx_if (fun h5 => ?_) (fun h5 => ?_)
            · rw [show sel_tells (kc C q0) = m_Soot_tells by rw [h5]; rfl]
              exact s_Soot_tells (by omega) C I q0 x2 hq0 h5 _
            ·
              have h6 : kc C q0 = 6 := by have := gS_k hq0; omega
              rw [show sel_tells (kc C q0) = m_Forged_tells by rw [h6]; rfl]
              exact s_Forged_tells (by omega) C I q0 x2 hq0 h6 _
def M_H_voice (C : HC) (I : HI) (x1 : Int32) (x2 : Int32) (x3 : Int32) : Option (Int32 × HI) := if (M_Wall_hasStroke I x1) = (0 : Int32) then (Option.bind (M_H_error I (1 : Int32)) fun p2 => some (p2.1, p2.2)) else (if (M_Wall_within x2 (3 : Int32)) = (0 : Int32) then (Option.bind (M_H_error I (1 : Int32)) fun p4 => some (p4.1, p4.2)) else (lt (xu I 86 0 (0 : Int32)) fun J5 => if x2 = (0 : Int32) then (grd (bnd x1 8 && gS C (hT C x1.toNatClampNeg)) (Option.bind (M_Vdraws C J5 (hT C x1.toNatClampNeg) x3) fun p8 => some (p8.1, p8.2))) else (if x2 = (1 : Int32) then (grd (bnd x1 8 && gS C (hT C x1.toNatClampNeg)) (Option.bind (M_Vdries C J5 (hT C x1.toNatClampNeg) x3) fun p11 => some (p11.1, p11.2))) else (if x2 = (2 : Int32) then (grd (bnd x1 8 && gS C (hT C x1.toNatClampNeg)) (Option.bind (M_Vpeels C J5 (hT C x1.toNatClampNeg) x3) fun p14 => some (p14.1, p14.2))) else (grd (bnd x1 8 && gS C (hT C x1.toNatClampNeg)) (Option.bind (M_Vtells C J5 (hT C x1.toNatClampNeg) x3) fun p16 => some (p16.1, p16.2)))))))
theorem s_H_voice {G : xG} {d : Nat} (hd : 8 ≤ d) (C : HC) (I : HI) (x1 : Int32) (x2 : Int32) (x3 : Int32)  (r : Int32 × HI) : M_H_voice C I x1 x2 x3 = some r → kM G d m_H_voice [.ref 0, .int x1, .int x2, .int x3] C I 0 0 (some (.int r.1)) C r.2 := by
  unfold M_H_voice
  refine kM.of (by decide +kernel) (Nat.le_of_ble_eq_true rfl) (lv := [.ref 0, .int x1, .int x2, .int x3]) rfl (fun X hX hE => ?_)
  refine kx_go 1 (pc' := 1) (lv' := [.ref 0, .int x1, .int x2, .int x3]) (st' := [.ref 0]) hX ok_H_voice rfl ?_
  refine kx_getp hX ok_H_voice rfl (q := 1) (nx := 4) rfl ?_
  refine kx_go 1 (pc' := 5) (lv' := [.ref 0, .int x1, .int x2, .int x3]) (st' := [.int x1, .ref 1]) hX ok_H_voice rfl ?_
  refine kx_V (r := 1) (as := [.int x1]) (by decide) hX ok_H_voice (nx := 8) rfl l_H_71 (by decide) rfl (fun _ => s_Wall_hasStroke (G := G) (d := 0) (Nat.le_refl _) C I x1 _ rfl) (by omega) rfl (rest := []) rfl (Nat.le_of_ble_eq_true rfl) ⟨Nat.le_of_ble_eq_true rfl, Nat.le_of_ble_eq_true rfl⟩ ?_
  show _ → kW G X m_H_voice C I 0 0 8 [.ref 0, .int x1, .int x2, .int x3] [.int (M_Wall_hasStroke I x1)]
  refine kx_go 1 (pc' := if (M_Wall_hasStroke I x1) = (0 : Int32) then 19 else 11) (lv' := [.ref 0, .int x1, .int x2, .int x3]) (st' := []) hX ok_H_voice rfl ?_
  refine kx_ite (fun c1 => ?_) (fun c1 => ?_)
  · refine kx_go 2 (pc' := 21) (lv' := [.ref 0, .int x1, .int x2, .int x3]) (st' := [.int (1 : Int32), .ref 0]) hX ok_H_voice rfl ?_
    refine kx_bind (fun p2 hp2 => ?_)
    refine kx_V (r := 0) (as := [.int (1 : Int32)]) (by decide) hX ok_H_voice (nx := 24) rfl l_H_60 (by decide) rfl (fun _ => s_H_error (G := G) (d := 0) (Nat.le_refl _) C I (1 : Int32) p2 hp2) (by omega) rfl (rest := []) rfl (Nat.le_of_ble_eq_true rfl) ⟨Nat.le_of_ble_eq_true rfl, Nat.le_of_ble_eq_true rfl⟩ ?_
    show _ → kW G X m_H_voice C p2.2 0 0 24 [.ref 0, .int x1, .int x2, .int x3] [.int p2.1]
    intro h; have h := Option.some.inj h; subst h
    exact kx_iret hX hE ok_H_voice (nx := 25) rfl rfl ⟨Nat.le_of_ble_eq_true rfl, Nat.le_of_ble_eq_true rfl⟩
  · refine kx_go 2 (pc' := 13) (lv' := [.ref 0, .int x1, .int x2, .int x3]) (st' := [.int (3 : Int32), .int x2]) hX ok_H_voice rfl ?_
    refine kx_S (as := [.int x2, .int (3 : Int32)]) hX ok_H_voice (nx := 16) rfl l_H_56 (fun _ => s_Wall_within (G := G) (d := 0) (Nat.le_refl _) C I x2 (3 : Int32) _ rfl) (by omega) rfl (rest := []) rfl (Nat.le_of_ble_eq_true rfl) ⟨Nat.le_of_ble_eq_true rfl, Nat.le_of_ble_eq_true rfl⟩ ?_
    show _ → kW G X m_H_voice C I 0 0 16 [.ref 0, .int x1, .int x2, .int x3] [.int (M_Wall_within x2 (3 : Int32))]
    refine kx_go 1 (pc' := if (M_Wall_within x2 (3 : Int32)) = (0 : Int32) then 19 else 25) (lv' := [.ref 0, .int x1, .int x2, .int x3]) (st' := []) hX ok_H_voice rfl ?_
    refine kx_ite (fun c3 => ?_) (fun c3 => ?_)
    · refine kx_go 2 (pc' := 21) (lv' := [.ref 0, .int x1, .int x2, .int x3]) (st' := [.int (1 : Int32), .ref 0]) hX ok_H_voice rfl ?_
      refine kx_bind (fun p4 hp4 => ?_)
      refine kx_V (r := 0) (as := [.int (1 : Int32)]) (by decide) hX ok_H_voice (nx := 24) rfl l_H_60 (by decide) rfl (fun _ => s_H_error (G := G) (d := 0) (Nat.le_refl _) C I (1 : Int32) p4 hp4) (by omega) rfl (rest := []) rfl (Nat.le_of_ble_eq_true rfl) ⟨Nat.le_of_ble_eq_true rfl, Nat.le_of_ble_eq_true rfl⟩ ?_
      show _ → kW G X m_H_voice C p4.2 0 0 24 [.ref 0, .int x1, .int x2, .int x3] [.int p4.1]
      intro h; have h := Option.some.inj h; subst h
      exact kx_iret hX hE ok_H_voice (nx := 25) rfl rfl ⟨Nat.le_of_ble_eq_true rfl, Nat.le_of_ble_eq_true rfl⟩
    · refine kx_go 1 (pc' := 26) (lv' := [.ref 0, .int x1, .int x2, .int x3]) (st' := [.ref 0]) hX ok_H_voice rfl ?_
      refine kx_getp hX ok_H_voice rfl (q := 86) (nx := 29) rfl ?_
      refine kx_go 2 (pc' := 31) (lv' := [.ref 0, .int x1, .int x2, .int x3]) (st' := [.int (0 : Int32), .int (0 : Int32), .ref 86]) hX ok_H_voice rfl ?_
      refine kx_iastc hX ok_H_voice (w := 41) (nx := 32) rfl rfl (k := 0) rfl ?_
      refine kx_lt (Q := fun J5 => kW G X m_H_voice C J5 0 0 32 [.ref 0, .int x1, .int x2, .int x3] []) (fun J5 eJ5 => ?_)
      refine kx_go 2 (pc' := xtsw x2 [((0 : Int32), 60), ((1 : Int32), 78), ((2 : Int32), 96)] 114) (lv' := [.ref 0, .int x1, .int x2, .int x3]) (st' := []) hX ok_H_voice rfl ?_
      refine kx_sw (fun c6 => ?_) (fun c6 => ?_)
      · refine kx_go 1 (pc' := 61) (lv' := [.ref 0, .int x1, .int x2, .int x3]) (st' := [.ref 0]) hX ok_H_voice rfl ?_
        refine kx_getp hX ok_H_voice rfl (q := 1) (nx := 64) rfl ?_
        refine kx_getp hX ok_H_voice rfl (q := 2) (nx := 67) rfl ?_
        refine kx_go 1 (pc' := 68) (lv' := [.ref 0, .int x1, .int x2, .int x3]) (st' := [.int x1, .ref 2]) hX ok_H_voice rfl ?_
        refine kx_aaT hX ok_H_voice (nx := 69) rfl (fun bhq7 hq7 => ?_)
        refine kx_go 1 (pc' := 70) (lv' := [.ref 0, .int x1, .int x2, .int x3]) (st' := [.ref 0, .ref (hT C x1.toNatClampNeg)]) hX ok_H_voice rfl ?_
        refine kx_getp hX ok_H_voice rfl (q := 86) (nx := 73) rfl ?_
        refine kx_go 1 (pc' := 74) (lv' := [.ref 0, .int x1, .int x2, .int x3]) (st' := [.int x3, .ref 86, .ref (hT C x1.toNatClampNeg)]) hX ok_H_voice rfl ?_
        refine kx_bind (fun p8 hp8 => ?_)
        refine kx_U (as := [.ref 86, .int x3]) hq7 hX ok_H_voice (nx := 77) rfl (l_H_247 (gS_k hq7)) (fun _ => s_Vdraws (G := G) (d := 2) (Nat.le_refl _) C J5 (hT C x1.toNatClampNeg) x3 hq7 p8 hp8) (by omega) rfl (rest := []) rfl (Nat.le_of_ble_eq_true rfl) ⟨Nat.le_of_ble_eq_true rfl, Nat.le_of_ble_eq_true rfl⟩ ?_
        show _ → kW G X m_H_voice C p8.2 0 0 77 [.ref 0, .int x1, .int x2, .int x3] [.int p8.1]
        intro h; have h := Option.some.inj h; subst h
        exact kx_iret hX hE ok_H_voice (nx := 78) rfl rfl ⟨Nat.le_of_ble_eq_true rfl, Nat.le_of_ble_eq_true rfl⟩
      · refine kx_sw (fun c9 => ?_) (fun c9 => ?_)
        · refine kx_go 1 (pc' := 79) (lv' := [.ref 0, .int x1, .int x2, .int x3]) (st' := [.ref 0]) hX ok_H_voice rfl ?_
          refine kx_getp hX ok_H_voice rfl (q := 1) (nx := 82) rfl ?_
          refine kx_getp hX ok_H_voice rfl (q := 2) (nx := 85) rfl ?_
          refine kx_go 1 (pc' := 86) (lv' := [.ref 0, .int x1, .int x2, .int x3]) (st' := [.int x1, .ref 2]) hX ok_H_voice rfl ?_
          refine kx_aaT hX ok_H_voice (nx := 87) rfl (fun bhq10 hq10 => ?_)
          refine kx_go 1 (pc' := 88) (lv' := [.ref 0, .int x1, .int x2, .int x3]) (st' := [.ref 0, .ref (hT C x1.toNatClampNeg)]) hX ok_H_voice rfl ?_
          refine kx_getp hX ok_H_voice rfl (q := 86) (nx := 91) rfl ?_
          refine kx_go 1 (pc' := 92) (lv' := [.ref 0, .int x1, .int x2, .int x3]) (st' := [.int x3, .ref 86, .ref (hT C x1.toNatClampNeg)]) hX ok_H_voice rfl ?_
          refine kx_bind (fun p11 hp11 => ?_)
          refine kx_U (as := [.ref 86, .int x3]) hq10 hX ok_H_voice (nx := 95) rfl (l_H_251 (gS_k hq10)) (fun _ => s_Vdries (G := G) (d := 5) (Nat.le_refl _) C J5 (hT C x1.toNatClampNeg) x3 hq10 p11 hp11) (by omega) rfl (rest := []) rfl (Nat.le_of_ble_eq_true rfl) ⟨Nat.le_of_ble_eq_true rfl, Nat.le_of_ble_eq_true rfl⟩ ?_
          show _ → kW G X m_H_voice C p11.2 0 0 95 [.ref 0, .int x1, .int x2, .int x3] [.int p11.1]
          intro h; have h := Option.some.inj h; subst h
          exact kx_iret hX hE ok_H_voice (nx := 96) rfl rfl ⟨Nat.le_of_ble_eq_true rfl, Nat.le_of_ble_eq_true rfl⟩
        · refine kx_sw (fun c12 => ?_) (fun c12 => ?_)
          · refine kx_go 1 (pc' := 97) (lv' := [.ref 0, .int x1, .int x2, .int x3]) (st' := [.ref 0]) hX ok_H_voice rfl ?_
            refine kx_getp hX ok_H_voice rfl (q := 1) (nx := 100) rfl ?_
            refine kx_getp hX ok_H_voice rfl (q := 2) (nx := 103) rfl ?_
            refine kx_go 1 (pc' := 104) (lv' := [.ref 0, .int x1, .int x2, .int x3]) (st' := [.int x1, .ref 2]) hX ok_H_voice rfl ?_
            refine kx_aaT hX ok_H_voice (nx := 105) rfl (fun bhq13 hq13 => ?_)
            refine kx_go 1 (pc' := 106) (lv' := [.ref 0, .int x1, .int x2, .int x3]) (st' := [.ref 0, .ref (hT C x1.toNatClampNeg)]) hX ok_H_voice rfl ?_
            refine kx_getp hX ok_H_voice rfl (q := 86) (nx := 109) rfl ?_
            refine kx_go 1 (pc' := 110) (lv' := [.ref 0, .int x1, .int x2, .int x3]) (st' := [.int x3, .ref 86, .ref (hT C x1.toNatClampNeg)]) hX ok_H_voice rfl ?_
            refine kx_bind (fun p14 hp14 => ?_)
            refine kx_U (as := [.ref 86, .int x3]) hq13 hX ok_H_voice (nx := 113) rfl (l_H_254 (gS_k hq13)) (fun _ => s_Vpeels (G := G) (d := 3) (Nat.le_refl _) C J5 (hT C x1.toNatClampNeg) x3 hq13 p14 hp14) (by omega) rfl (rest := []) rfl (Nat.le_of_ble_eq_true rfl) ⟨Nat.le_of_ble_eq_true rfl, Nat.le_of_ble_eq_true rfl⟩ ?_
            show _ → kW G X m_H_voice C p14.2 0 0 113 [.ref 0, .int x1, .int x2, .int x3] [.int p14.1]
            intro h; have h := Option.some.inj h; subst h
            exact kx_iret hX hE ok_H_voice (nx := 114) rfl rfl ⟨Nat.le_of_ble_eq_true rfl, Nat.le_of_ble_eq_true rfl⟩
          · refine kx_sw0 ?_
            refine kx_go 1 (pc' := 115) (lv' := [.ref 0, .int x1, .int x2, .int x3]) (st' := [.ref 0]) hX ok_H_voice rfl ?_
            refine kx_getp hX ok_H_voice rfl (q := 1) (nx := 118) rfl ?_
            refine kx_getp hX ok_H_voice rfl (q := 2) (nx := 121) rfl ?_
            refine kx_go 1 (pc' := 122) (lv' := [.ref 0, .int x1, .int x2, .int x3]) (st' := [.int x1, .ref 2]) hX ok_H_voice rfl ?_
            refine kx_aaT hX ok_H_voice (nx := 123) rfl (fun bhq15 hq15 => ?_)
            refine kx_go 1 (pc' := 124) (lv' := [.ref 0, .int x1, .int x2, .int x3]) (st' := [.ref 0, .ref (hT C x1.toNatClampNeg)]) hX ok_H_voice rfl ?_
            refine kx_getp hX ok_H_voice rfl (q := 86) (nx := 127) rfl ?_
            refine kx_go 1 (pc' := 128) (lv' := [.ref 0, .int x1, .int x2, .int x3]) (st' := [.int x3, .ref 86, .ref (hT C x1.toNatClampNeg)]) hX ok_H_voice rfl ?_
            refine kx_bind (fun p16 hp16 => ?_)
            refine kx_U (as := [.ref 86, .int x3]) hq15 hX ok_H_voice (nx := 131) rfl (l_H_257 (gS_k hq15)) (fun _ => s_Vtells (G := G) (d := 7) (Nat.le_refl _) C J5 (hT C x1.toNatClampNeg) x3 hq15 p16 hp16) (by omega) rfl (rest := []) rfl (Nat.le_of_ble_eq_true rfl) ⟨Nat.le_of_ble_eq_true rfl, Nat.le_of_ble_eq_true rfl⟩ ?_
            show _ → kW G X m_H_voice C p16.2 0 0 131 [.ref 0, .int x1, .int x2, .int x3] [.int p16.1]
            intro h; have h := Option.some.inj h; subst h
            exact kx_iret hX hE ok_H_voice (nx := 132) rfl rfl ⟨Nat.le_of_ble_eq_true rfl, Nat.le_of_ble_eq_true rfl⟩
