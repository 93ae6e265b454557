def L_Model_whichWrong_19 (x1 : Int32) (x3 : Int32) (I : HI) : Nat → Int32 → Int32 → Option (Int32)
  | 0, _, _ => none
  | f + 1, x2, x4 => if (I 89 1) ≤ x4 then (some x2) else (Option.bind (M_Model_upper I x4) fun p2 => grd (bnd x3 8) (if p2 = (I 97 x3.toNatClampNeg) then (Option.bind (M_Model_lower I x4) fun p5 => if ((x1 >>> (p5 &&& (31 : Int32))) &&& (1 : Int32)) = (0 : Int32) then (L_Model_whichWrong_19 x1 x3 I f (x2 ||| ((1 : Int32) <<< (x4 &&& (31 : Int32)))) (x4 + (1 : Int32))) else (L_Model_whichWrong_19 x1 x3 I f (x2 ||| (0 : Int32)) (x4 + (1 : Int32)))) else (L_Model_whichWrong_19 x1 x3 I f (x2 ||| (0 : Int32)) (x4 + (1 : Int32)))))
theorem s_L_Model_whichWrong_19 {G : xG} {X : xC} {d : Nat} (hd : 1 ≤ d) (hX : xAmb G X m_Model_whichWrong d 0 0)  (C : HC) (x1 : Int32) (x3 : Int32) (I : HI) : ∀ (f : Nat) (x2 : Int32) (x4 : Int32) (r : Int32), (kW G X m_Model_whichWrong C I 0 0 75 [.ref 88, .int x1, .int r, .int x3, .null] []) → L_Model_whichWrong_19 x1 x3 I f x2 x4 = some r → kW G X m_Model_whichWrong C I 0 0 19 [.ref 88, .int x1, .int x2, .int x3, .int x4] [] := by
  intro f
  induction f with
  | zero => intro x2 x4 r hk h; rw [L_Model_whichWrong_19] at h; cases h
  | succ f ih =>
    intro x2 x4 r hk
    rw [L_Model_whichWrong_19]
    refine kx_go 2 (pc' := 22) (lv' := [.ref 88, .int x1, .int x2, .int x3, .int x4]) (st' := [.ref 88, .int x4]) hX ok_Model_whichWrong rfl ?_
    refine kx_getp hX ok_Model_whichWrong rfl (q := 89) (nx := 25) rfl ?_
    refine kx_go 1 (pc' := 26) (lv' := [.ref 88, .int x1, .int x2, .int x3, .int x4]) (st' := [.int (1 : Int32), .ref 89, .int x4]) hX ok_Model_whichWrong rfl ?_
    refine kx_ialdc hX ok_Model_whichWrong (w := 270) (nx := 27) rfl rfl (k := 1) rfl ?_
    refine kx_go 1 (pc' := if (I 89 1) ≤ x4 then 75 else 30) (lv' := [.ref 88, .int x1, .int x2, .int x3, .int x4]) (st' := []) hX ok_Model_whichWrong rfl ?_
    refine kx_ite (fun c1 => ?_) (fun c1 => ?_)
    · refine kx_weak (lv' := [.ref 88, .int x1, .int x2, .int x3, .null]) (by simp [xsub]) ?_
      intro h; have h := Option.some.inj h; subst h
      exact hk
    · refine kx_go 3 (pc' := 34) (lv' := [.ref 88, .int x1, .int x2, .int x3, .int x4]) (st' := [.int x4, .ref 88, .int x2]) hX ok_Model_whichWrong rfl ?_
      refine kx_bind (fun p2 hp2 => ?_)
      refine kx_V (r := 88) (as := [.int x4]) (by decide) hX ok_Model_whichWrong (nx := 37) rfl l_Model_194 (by decide) rfl (fun _ => s_Model_upper (G := G) (d := 0) (Nat.le_refl _) C I x4 p2 hp2) (by omega) rfl (rest := [.int x2]) rfl (Nat.le_of_ble_eq_true rfl) ⟨Nat.le_of_ble_eq_true rfl, Nat.le_of_ble_eq_true rfl⟩ ?_
      show _ → kW G X m_Model_whichWrong C I 0 0 37 [.ref 88, .int x1, .int x2, .int x3, .int x4] [.int p2, .int x2]
      refine kx_go 1 (pc' := 38) (lv' := [.ref 88, .int x1, .int x2, .int x3, .int x4]) (st' := [.ref 88, .int p2, .int x2]) hX ok_Model_whichWrong rfl ?_
      refine kx_getp hX ok_Model_whichWrong rfl (q := 97) (nx := 41) rfl ?_
      refine kx_go 1 (pc' := 42) (lv' := [.ref 88, .int x1, .int x2, .int x3, .int x4]) (st' := [.int x3, .ref 97, .int p2, .int x2]) hX ok_Model_whichWrong rfl ?_
      refine kx_iald hX ok_Model_whichWrong (w := 8) (nx := 43) rfl (fun b3 => ?_)
      refine kx_go 1 (pc' := if p2 = (I 97 x3.toNatClampNeg) then 46 else 66) (lv' := [.ref 88, .int x1, .int x2, .int x3, .int x4]) (st' := [.int x2]) hX ok_Model_whichWrong rfl ?_
      refine kx_ite (fun c4 => ?_) (fun c4 => ?_)
      · refine kx_go 3 (pc' := 50) (lv' := [.ref 88, .int x1, .int x2, .int x3, .int x4]) (st' := [.int x4, .ref 88, .int x1, .int x2]) hX ok_Model_whichWrong rfl ?_
        refine kx_bind (fun p5 hp5 => ?_)
        refine kx_V (r := 88) (as := [.int x4]) (by decide) hX ok_Model_whichWrong (nx := 53) rfl l_Model_205 (by decide) rfl (fun _ => s_Model_lower (G := G) (d := 0) (Nat.le_refl _) C I x4 p5 hp5) (by omega) rfl (rest := [.int x1, .int x2]) rfl (Nat.le_of_ble_eq_true rfl) ⟨Nat.le_of_ble_eq_true rfl, Nat.le_of_ble_eq_true rfl⟩ ?_
        show _ → kW G X m_Model_whichWrong C I 0 0 53 [.ref 88, .int x1, .int x2, .int x3, .int x4] [.int p5, .int x1, .int x2]
        refine kx_go 4 (pc' := if ((x1 >>> (p5 &&& (31 : Int32))) &&& (1 : Int32)) = (0 : Int32) then 59 else 66) (lv' := [.ref 88, .int x1, .int x2, .int x3, .int x4]) (st' := [.int x2]) hX ok_Model_whichWrong rfl ?_
        refine kx_ite (fun c6 => ?_) (fun c6 => ?_)
        · refine kx_go 8 (pc' := 19) (lv' := [.ref 88, .int x1, .int (x2 ||| ((1 : Int32) <<< (x4 &&& (31 : Int32)))), .int x3, .int (x4 + (1 : Int32))]) (st' := []) hX ok_Model_whichWrong rfl ?_
          exact fun h => ih (x2 ||| ((1 : Int32) <<< (x4 &&& (31 : Int32)))) (x4 + (1 : Int32)) r hk h
        · refine kx_go 5 (pc' := 19) (lv' := [.ref 88, .int x1, .int (x2 ||| (0 : Int32)), .int x3, .int (x4 + (1 : Int32))]) (st' := []) hX ok_Model_whichWrong rfl ?_
          exact fun h => ih (x2 ||| (0 : Int32)) (x4 + (1 : Int32)) r hk h
      · refine kx_go 5 (pc' := 19) (lv' := [.ref 88, .int x1, .int (x2 ||| (0 : Int32)), .int x3, .int (x4 + (1 : Int32))]) (st' := []) hX ok_Model_whichWrong rfl ?_
        exact fun h => ih (x2 ||| (0 : Int32)) (x4 + (1 : Int32)) r hk h
def L_Model_whichWrong_6 (I : HI) : Nat → Int32 → Int32 → Int32 → Option (Int32)
  | 0, _, _, _ => none
  | f + 1, x1, x2, x3 => if (I 89 0) ≤ x3 then (some x2) else (Option.bind (L_Model_whichWrong_19 x1 x3 I 1000 x2 (0 : Int32)) fun p2 => grd (bnd x3 8) (lt (x1 ||| ((1 : Int32) <<< ((I 97 x3.toNatClampNeg) &&& (31 : Int32)))) fun y4 => L_Model_whichWrong_6 I f y4 p2 (x3 + (1 : Int32))))
theorem s_L_Model_whichWrong_6 {G : xG} {X : xC} {d : Nat} (hd : 1 ≤ d) (hX : xAmb G X m_Model_whichWrong d 0 0)  (C : HC) (I : HI) : ∀ (f : Nat) (x1 : Int32) (x2 : Int32) (x3 : Int32) (r : Int32), (kW G X m_Model_whichWrong C I 0 0 92 [.null, .null, .int r, .null, .null] []) → L_Model_whichWrong_6 I f x1 x2 x3 = some r → kW G X m_Model_whichWrong C I 0 0 6 [.ref 88, .int x1, .int x2, .int x3, .null] [] := by
  intro f
  induction f with
  | zero => intro x1 x2 x3 r hk h; rw [L_Model_whichWrong_6] at h; cases h
  | succ f ih =>
    intro x1 x2 x3 r hk
    rw [L_Model_whichWrong_6]
    refine kx_go 2 (pc' := 8) (lv' := [.ref 88, .int x1, .int x2, .int x3, .null]) (st' := [.ref 88, .int x3]) hX ok_Model_whichWrong rfl ?_
    refine kx_getp hX ok_Model_whichWrong rfl (q := 89) (nx := 11) rfl ?_
    refine kx_go 1 (pc' := 12) (lv' := [.ref 88, .int x1, .int x2, .int x3, .null]) (st' := [.int (0 : Int32), .ref 89, .int x3]) hX ok_Model_whichWrong rfl ?_
    refine kx_ialdc hX ok_Model_whichWrong (w := 270) (nx := 13) rfl rfl (k := 0) rfl ?_
    refine kx_go 1 (pc' := if (I 89 0) ≤ x3 then 92 else 16) (lv' := [.ref 88, .int x1, .int x2, .int x3, .null]) (st' := []) hX ok_Model_whichWrong rfl ?_
    refine kx_ite (fun c1 => ?_) (fun c1 => ?_)
    · refine kx_weak (lv' := [.null, .null, .int x2, .null, .null]) (by simp [xsub]) ?_
      intro h; have h := Option.some.inj h; subst h
      exact hk
    · refine kx_go 2 (pc' := 19) (lv' := [.ref 88, .int x1, .int x2, .int x3, .int (0 : Int32)]) (st' := []) hX ok_Model_whichWrong rfl ?_
      refine kx_bind (fun p2 hp2 => ?_)
      refine kx_via (fun hk => s_L_Model_whichWrong_19 (G := G) (X := X) (by omega) hX C x1 x3 I 1000 x2 (0 : Int32) p2 hk hp2) ?_
      refine kx_go 3 (pc' := 78) (lv' := [.ref 88, .int x1, .int p2, .int x3, .null]) (st' := [.ref 88, .int (1 : Int32), .int x1]) hX ok_Model_whichWrong rfl ?_
      refine kx_getp hX ok_Model_whichWrong rfl (q := 97) (nx := 81) rfl ?_
      refine kx_go 1 (pc' := 82) (lv' := [.ref 88, .int x1, .int p2, .int x3, .null]) (st' := [.int x3, .ref 97, .int (1 : Int32), .int x1]) hX ok_Model_whichWrong rfl ?_
      refine kx_iald hX ok_Model_whichWrong (w := 8) (nx := 83) rfl (fun b3 => ?_)
      refine kx_go 3 (pc' := 86) (lv' := [.ref 88, .int (x1 ||| ((1 : Int32) <<< ((I 97 x3.toNatClampNeg) &&& (31 : Int32)))), .int p2, .int x3, .null]) (st' := []) hX ok_Model_whichWrong rfl ?_
      refine kx_lt (Q := fun y4 => kW G X m_Model_whichWrong C I 0 0 86 [.ref 88, .int y4, .int p2, .int x3, .null] []) (fun y4 ey4 => ?_)
      refine kx_go 2 (pc' := 6) (lv' := [.ref 88, .int y4, .int p2, .int (x3 + (1 : Int32)), .null]) (st' := []) hX ok_Model_whichWrong rfl ?_
      exact fun h => ih y4 p2 (x3 + (1 : Int32)) r hk h
def M_Model_whichWrong (I : HI) : Option (Int32) := Option.bind (L_Model_whichWrong_6 I 1000 (0 : Int32) (0 : Int32) (0 : Int32)) fun p1 => some p1
theorem s_Model_whichWrong {G : xG} {d : Nat} (hd : 1 ≤ d) (C : HC) (I : HI)   (r : Int32) : M_Model_whichWrong I = some r → kM G d m_Model_whichWrong [.ref 88] C I 0 0 (some (.int r)) C I := by
  unfold M_Model_whichWrong
  refine kM.of (by decide +kernel) (Nat.le_of_ble_eq_true rfl) (lv := [.ref 88, .null, .null, .null, .null]) rfl (fun X hX hE => ?_)
  refine kx_go 6 (pc' := 6) (lv' := [.ref 88, .int (0 : Int32), .int (0 : Int32), .int (0 : Int32), .null]) (st' := []) hX ok_Model_whichWrong rfl ?_
  refine kx_bind (fun p1 hp1 => ?_)
  refine kx_via (fun hk => s_L_Model_whichWrong_6 (G := G) (X := X) (by omega) hX C I 1000 (0 : Int32) (0 : Int32) (0 : Int32) p1 hk hp1) ?_
  refine kx_go 1 (pc' := 93) (lv' := [.null, .null, .int p1, .null, .null]) (st' := [.int p1]) hX ok_Model_whichWrong rfl ?_
  intro h; have h := Option.some.inj h; subst h
  exact kx_iret hX hE ok_Model_whichWrong (nx := 94) rfl rfl ⟨Nat.le_of_ble_eq_true rfl, Nat.le_of_ble_eq_true rfl⟩
def M_Model_wrong_ (I : HI) (x1 : Int32) : Option (Int32 × HI) := if (M_Model_in (x1.toInt64) (Int64.ofNat 0) (Int64.ofNat 1)) = (0 : Int32) then (Option.bind (M_Model_finds I (1 : Int32)) fun p2 => some (p2.1, p2.2)) else (Option.bind (M_Model_findBest I) fun p3 => if x1 = (0 : Int32) then (some (p3.1, p3.2)) else (Option.bind (M_Model_whichWrong p3.2) fun p5 => some (p5, p3.2)))
theorem s_Model_wrong_ {G : xG} {d : Nat} (hd : 53 ≤ d) (C : HC) (I : HI) (x1 : Int32)  (r : Int32 × HI) : M_Model_wrong_ I x1 = some r → kM G d m_Model_wrong_ [.ref 88, .int x1] C I 0 0 (some (.int r.1)) C r.2 := by
  unfold M_Model_wrong_
  refine kM.of (by decide +kernel) (Nat.le_of_ble_eq_true rfl) (lv := [.ref 88, .int x1, .null]) rfl (fun X hX hE => ?_)
  refine kx_go 4 (pc' := 4) (lv' := [.ref 88, .int x1, .null]) (st' := [.long (Int64.ofNat 1), .long (Int64.ofNat 0), .long (x1.toInt64)]) hX ok_Model_wrong_ rfl ?_
  refine kx_S (as := [.long (x1.toInt64), .long (Int64.ofNat 0), .long (Int64.ofNat 1)]) hX ok_Model_wrong_ (nx := 7) rfl l_Model_66 (fun _ => s_Model_in (G := G) (d := 0) (Nat.le_refl _) C I (x1.toInt64) (Int64.ofNat 0) (Int64.ofNat 1) _ rfl) (by omega) rfl (rest := []) rfl (Nat.le_of_ble_eq_true rfl) ⟨Nat.le_of_ble_eq_true rfl, Nat.le_of_ble_eq_true rfl⟩ ?_
  show _ → kW G X m_Model_wrong_ C I 0 0 7 [.ref 88, .int x1, .null] [.int (M_Model_in (x1.toInt64) (Int64.ofNat 0) (Int64.ofNat 1))]
  refine kx_go 1 (pc' := if (M_Model_in (x1.toInt64) (Int64.ofNat 0) (Int64.ofNat 1)) = (0 : Int32) then 10 else 16) (lv' := [.ref 88, .int x1, .null]) (st' := []) hX ok_Model_wrong_ rfl ?_
  refine kx_ite (fun c1 => ?_) (fun c1 => ?_)
  · refine kx_go 2 (pc' := 12) (lv' := [.ref 88, .int x1, .null]) (st' := [.int (1 : Int32), .ref 88]) hX ok_Model_wrong_ rfl ?_
    refine kx_bind (fun p2 hp2 => ?_)
    refine kx_V (r := 88) (as := [.int (1 : Int32)]) (by decide) hX ok_Model_wrong_ (nx := 15) rfl l_Model_129 (by decide) rfl (fun _ => s_Model_finds (G := G) (d := 0) (Nat.le_refl _) C I (1 : Int32) p2 hp2) (by omega) rfl (rest := []) rfl (Nat.le_of_ble_eq_true rfl) ⟨Nat.le_of_ble_eq_true rfl, Nat.le_of_ble_eq_true rfl⟩ ?_
    show _ → kW G X m_Model_wrong_ C p2.2 0 0 15 [.ref 88, .int x1, .null] [.int p2.1]
    intro h; have h := Option.some.inj h; subst h
    exact kx_iret hX hE ok_Model_wrong_ (nx := 16) rfl rfl ⟨Nat.le_of_ble_eq_true rfl, Nat.le_of_ble_eq_true rfl⟩
  · refine kx_go 1 (pc' := 17) (lv' := [.ref 88, .int x1, .null]) (st' := [.ref 88]) hX ok_Model_wrong_ rfl ?_
    refine kx_bind (fun p3 hp3 => ?_)
    refine kx_V (r := 88) (as := []) (by decide) hX ok_Model_wrong_ (nx := 20) rfl l_Model_225 (by decide) rfl (fun _ => s_Model_findBest (G := G) (d := 52) (Nat.le_refl _) C I  p3 hp3) (by omega) rfl (rest := []) rfl (Nat.le_of_ble_eq_true rfl) ⟨Nat.le_of_ble_eq_true rfl, Nat.le_of_ble_eq_true rfl⟩ ?_
    show _ → kW G X m_Model_wrong_ C p3.2 0 0 20 [.ref 88, .int x1, .null] [.int p3.1]
    refine kx_go 3 (pc' := if x1 = (0 : Int32) then 25 else 29) (lv' := [.ref 88, .int x1, .int p3.1]) (st' := []) hX ok_Model_wrong_ rfl ?_
    refine kx_ite (fun c4 => ?_) (fun c4 => ?_)
    · refine kx_go 2 (pc' := 33) (lv' := [.ref 88, .int x1, .int p3.1]) (st' := [.int p3.1]) hX ok_Model_wrong_ rfl ?_
      intro h; have h := Option.some.inj h; subst h
      exact kx_iret hX hE ok_Model_wrong_ (nx := 34) rfl rfl ⟨Nat.le_of_ble_eq_true rfl, Nat.le_of_ble_eq_true rfl⟩
    · refine kx_go 1 (pc' := 30) (lv' := [.ref 88, .int x1, .int p3.1]) (st' := [.ref 88]) hX ok_Model_wrong_ rfl ?_
      refine kx_bind (fun p5 hp5 => ?_)
      refine kx_V (r := 88) (as := []) (by decide) hX ok_Model_wrong_ (nx := 33) rfl l_Model_228 (by decide) rfl (fun _ => s_Model_whichWrong (G := G) (d := 1) (Nat.le_refl _) C p3.2  p5 hp5) (by omega) rfl (rest := []) rfl (Nat.le_of_ble_eq_true rfl) ⟨Nat.le_of_ble_eq_true rfl, Nat.le_of_ble_eq_true rfl⟩ ?_
      show _ → kW G X m_Model_wrong_ C p3.2 0 0 33 [.ref 88, .int x1, .int p3.1] [.int p5]
      intro h; have h := Option.some.inj h; subst h
      exact kx_iret hX hE ok_Model_wrong_ (nx := 34) rfl rfl ⟨Nat.le_of_ble_eq_true rfl, Nat.le_of_ble_eq_true rfl⟩
theorem w_Model_wrong_ {I : HI} {x1 : Int32} {r : Int32 × HI} : M_Model_wrong_ I x1 = some r → fr [88, 91, 92, 96, 97] I r.2 := by
  unfold M_Model_wrong_
  have f0 : fr [88, 91, 92, 96, 97] I I := fr.refl
  refine kx_if (fun _ => ?_) (fun _ => ?_)
  · refine kx_bind (fun p2 hp2 => ?_)
    have f1 : fr [88, 91, 92, 96, 97] I p2.2 := fr.trans f0 (fr.sub (by decide) (w_Model_finds hp2))
    intro h; have h := Option.some.inj h; subst h
    exact f1
  · refine kx_bind (fun p3 hp3 => ?_)
    have f2 : fr [88, 91, 92, 96, 97] I p3.2 := fr.trans f0 (fr.sub (by decide) (w_Model_findBest hp3))
    refine kx_if (fun _ => ?_) (fun _ => ?_)
    · intro h; have h := Option.some.inj h; subst h
      exact f2
    · refine kx_bind (fun p5 hp5 => ?_)
      intro h; have h := Option.some.inj h; subst h
      exact f2
theorem v_Model_wrong_ {I : HI} {x1 : Int32} {r : Int32 × HI} : M_Model_wrong_ I x1 = some r → fk [4, 5, 6, 7, 8, 9] I r.2 := by
  unfold M_Model_wrong_
  have f0 : fk [4, 5, 6, 7, 8, 9] I I := fk.refl
  refine kx_if (fun _ => ?_) (fun _ => ?_)
  · refine kx_bind (fun p2 hp2 => ?_)
    have f1 : fk [4, 5, 6, 7, 8, 9] I p2.2 := fk.trans f0 (fk.of (by decide) (w_Model_finds hp2))
    intro h; have h := Option.some.inj h; subst h
    exact f1
  · refine kx_bind (fun p3 hp3 => ?_)
    have f2 : fk [4, 5, 6, 7, 8, 9] I p3.2 := fk.trans f0 (fk.sub (by decide) (v_Model_findBest hp3))
    refine kx_if (fun _ => ?_) (fun _ => ?_)
    · intro h; have h := Option.some.inj h; subst h
      exact f2
    · refine kx_bind (fun p5 hp5 => ?_)
      intro h; have h := Option.some.inj h; subst h
      exact f2
