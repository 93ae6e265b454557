def M_H_trace (I : HI) (x1 : Int32) : Option (Int32 × HI) := if x1 < (0 : Int32) then (Option.bind (M_H_error I (2 : Int32)) fun p2 => some (p2.1, p2.2)) else (if (I 86 0) ≤ x1 then (Option.bind (M_H_error I (2 : Int32)) fun p4 => some (p4.1, p4.2)) else (if x1 < (40 : Int32) then (grd (bnd (x1 + (1 : Int32)) 41) (some ((I 86 (x1 + (1 : Int32)).toNatClampNeg), I))) else (Option.bind (M_H_error I (2 : Int32)) fun p7 => some (p7.1, p7.2))))
theorem s_H_trace {G : xG} {d : Nat} (hd : 1 ≤ d) (C : HC) (I : HI) (x1 : Int32)  (r : Int32 × HI) : M_H_trace I x1 = some r → kM G d m_H_trace [.ref 0, .int x1] C I 0 0 (some (.int r.1)) C r.2 := by
  unfold M_H_trace
  refine kM.of (by decide +kernel) (Nat.le_of_ble_eq_true rfl) (lv := [.ref 0, .int x1]) rfl (fun X hX hE => ?_)
  refine kx_go 2 (pc' := if x1 < (0 : Int32) then 20 else 4) (lv' := [.ref 0, .int x1]) (st' := []) hX ok_H_trace rfl ?_
  refine kx_ite (fun c1 => ?_) (fun c1 => ?_)
  · refine kx_go 2 (pc' := 22) (lv' := [.ref 0, .int x1]) (st' := [.int (2 : Int32), .ref 0]) hX ok_H_trace rfl ?_
    refine kx_bind (fun p2 hp2 => ?_)
    refine kx_V (r := 0) (as := [.int (2 : Int32)]) (by decide) hX ok_H_trace (nx := 25) rfl l_H_60 (by decide) rfl (fun _ => s_H_error (G := G) (d := 0) (Nat.le_refl _) C I (2 : Int32) p2 hp2) (by omega) rfl (rest := []) rfl (Nat.le_of_ble_eq_true rfl) ⟨Nat.le_of_ble_eq_true rfl, Nat.le_of_ble_eq_true rfl⟩ ?_
    show _ → kW G X m_H_trace C p2.2 0 0 25 [.ref 0, .int x1] [.int p2.1]
    intro h; have h := Option.some.inj h; subst h
    exact kx_iret hX hE ok_H_trace (nx := 26) rfl rfl ⟨Nat.le_of_ble_eq_true rfl, Nat.le_of_ble_eq_true rfl⟩
  · refine kx_go 2 (pc' := 6) (lv' := [.ref 0, .int x1]) (st' := [.ref 0, .int x1]) hX ok_H_trace rfl ?_
    refine kx_getp hX ok_H_trace rfl (q := 86) (nx := 9) rfl ?_
    refine kx_go 1 (pc' := 10) (lv' := [.ref 0, .int x1]) (st' := [.int (0 : Int32), .ref 86, .int x1]) hX ok_H_trace rfl ?_
    refine kx_ialdc hX ok_H_trace (w := 41) (nx := 11) rfl rfl (k := 0) rfl ?_
    refine kx_go 1 (pc' := if (I 86 0) ≤ x1 then 20 else 14) (lv' := [.ref 0, .int x1]) (st' := []) hX ok_H_trace rfl ?_
    refine kx_ite (fun c3 => ?_) (fun c3 => ?_)
    · refine kx_go 2 (pc' := 22) (lv' := [.ref 0, .int x1]) (st' := [.int (2 : Int32), .ref 0]) hX ok_H_trace rfl ?_
      refine kx_bind (fun p4 hp4 => ?_)
      refine kx_V (r := 0) (as := [.int (2 : Int32)]) (by decide) hX ok_H_trace (nx := 25) rfl l_H_60 (by decide) rfl (fun _ => s_H_error (G := G) (d := 0) (Nat.le_refl _) C I (2 : Int32) p4 hp4) (by omega) rfl (rest := []) rfl (Nat.le_of_ble_eq_true rfl) ⟨Nat.le_of_ble_eq_true rfl, Nat.le_of_ble_eq_true rfl⟩ ?_
      show _ → kW G X m_H_trace C p4.2 0 0 25 [.ref 0, .int x1] [.int p4.1]
      intro h; have h := Option.some.inj h; subst h
      exact kx_iret hX hE ok_H_trace (nx := 26) rfl rfl ⟨Nat.le_of_ble_eq_true rfl, Nat.le_of_ble_eq_true rfl⟩
    · refine kx_go 3 (pc' := if x1 < (40 : Int32) then 26 else 20) (lv' := [.ref 0, .int x1]) (st' := []) hX ok_H_trace rfl ?_
      refine kx_ite (fun c5 => ?_) (fun c5 => ?_)
      · refine kx_go 1 (pc' := 27) (lv' := [.ref 0, .int x1]) (st' := [.ref 0]) hX ok_H_trace rfl ?_
        refine kx_getp hX ok_H_trace rfl (q := 86) (nx := 30) rfl ?_
        refine kx_go 3 (pc' := 33) (lv' := [.ref 0, .int x1]) (st' := [.int (x1 + (1 : Int32)), .ref 86]) hX ok_H_trace rfl ?_
        refine kx_iald hX ok_H_trace (w := 41) (nx := 34) rfl (fun b6 => ?_)
        intro h; have h := Option.some.inj h; subst h
        exact kx_iret hX hE ok_H_trace (nx := 35) rfl rfl ⟨Nat.le_of_ble_eq_true rfl, Nat.le_of_ble_eq_true rfl⟩
      · refine kx_go 2 (pc' := 22) (lv' := [.ref 0, .int x1]) (st' := [.int (2 : Int32), .ref 0]) hX ok_H_trace rfl ?_
        refine kx_bind (fun p7 hp7 => ?_)
        refine kx_V (r := 0) (as := [.int (2 : Int32)]) (by decide) hX ok_H_trace (nx := 25) rfl l_H_60 (by decide) rfl (fun _ => s_H_error (G := G) (d := 0) (Nat.le_refl _) C I (2 : Int32) p7 hp7) (by omega) rfl (rest := []) rfl (Nat.le_of_ble_eq_true rfl) ⟨Nat.le_of_ble_eq_true rfl, Nat.le_of_ble_eq_true rfl⟩ ?_
        show _ → kW G X m_H_trace C p7.2 0 0 25 [.ref 0, .int x1] [.int p7.1]
        intro h; have h := Option.some.inj h; subst h
        exact kx_iret hX hE ok_H_trace (nx := 26) rfl rfl ⟨Nat.le_of_ble_eq_true rfl, Nat.le_of_ble_eq_true rfl⟩
def M_H_isSheet (x0 : Int32) : Int32 := (M_Wall_within x0 (3 : Int32))
theorem s_H_isSheet {G : xG} {d : Nat} (hd : 1 ≤ d) (C : HC) (I : HI) (x0 : Int32)  (r : Int32) : M_H_isSheet x0 = r → kM G d m_H_isSheet [.int x0] C I 0 0 (some (.int r)) C I := by
  unfold M_H_isSheet
  refine kM.of (by decide +kernel) (Nat.le_of_ble_eq_true rfl) (lv := [.int x0]) rfl (fun X hX hE => ?_)
  refine kx_go 2 (pc' := 2) (lv' := [.int x0]) (st' := [.int (3 : Int32), .int x0]) hX ok_H_isSheet rfl ?_
  refine kx_S (as := [.int x0, .int (3 : Int32)]) hX ok_H_isSheet (nx := 5) rfl l_H_56 (fun _ => s_Wall_within (G := G) (d := 0) (Nat.le_refl _) C I x0 (3 : Int32) _ rfl) (by omega) rfl (rest := []) rfl (Nat.le_of_ble_eq_true rfl) ⟨Nat.le_of_ble_eq_true rfl, Nat.le_of_ble_eq_true rfl⟩ ?_
  show _ → kW G X m_H_isSheet C I 0 0 5 [.int x0] [.int (M_Wall_within x0 (3 : Int32))]
  rintro rfl
  exact kx_zret hX hE ok_H_isSheet (nx := 6) rfl rfl (b_Wall_within ..) ⟨Nat.le_of_ble_eq_true rfl, Nat.le_of_ble_eq_true rfl⟩
def M_H_areBits (x0 : Int32) : Int32 := if x0 = (0 : Int32) then ((1 : Int32)) else (if x0 = (8 : Int32) then ((1 : Int32)) else (if x0 = (16 : Int32) then ((1 : Int32)) else (if x0 = (32 : Int32) then ((1 : Int32)) else ((0 : Int32)))))
theorem s_H_areBits {G : xG} {d : Nat} (hd : 0 ≤ d) (C : HC) (I : HI) (x0 : Int32)  (r : Int32) : M_H_areBits x0 = r → kM G d m_H_areBits [.int x0] C I 0 0 (some (.int r)) C I := by
  unfold M_H_areBits
  refine kM.of (by decide +kernel) (Nat.le_of_ble_eq_true rfl) (lv := [.int x0]) rfl (fun X hX hE => ?_)
  refine kx_go 2 (pc' := if x0 = (0 : Int32) then 22 else 4) (lv' := [.int x0]) (st' := []) hX ok_H_areBits rfl ?_
  refine kx_ite (fun c1 => ?_) (fun c1 => ?_)
  · refine kx_go 2 (pc' := 27) (lv' := [.int x0]) (st' := [.int (1 : Int32)]) hX ok_H_areBits rfl ?_
    rintro rfl
    exact kx_zret hX hE ok_H_areBits (nx := 28) rfl rfl (Or.inr rfl) ⟨Nat.le_of_ble_eq_true rfl, Nat.le_of_ble_eq_true rfl⟩
  · refine kx_go 3 (pc' := if x0 = (8 : Int32) then 22 else 10) (lv' := [.int x0]) (st' := []) hX ok_H_areBits rfl ?_
    refine kx_ite (fun c2 => ?_) (fun c2 => ?_)
    · refine kx_go 2 (pc' := 27) (lv' := [.int x0]) (st' := [.int (1 : Int32)]) hX ok_H_areBits rfl ?_
      rintro rfl
      exact kx_zret hX hE ok_H_areBits (nx := 28) rfl rfl (Or.inr rfl) ⟨Nat.le_of_ble_eq_true rfl, Nat.le_of_ble_eq_true rfl⟩
    · refine kx_go 3 (pc' := if x0 = (16 : Int32) then 22 else 16) (lv' := [.int x0]) (st' := []) hX ok_H_areBits rfl ?_
      refine kx_ite (fun c3 => ?_) (fun c3 => ?_)
      · refine kx_go 2 (pc' := 27) (lv' := [.int x0]) (st' := [.int (1 : Int32)]) hX ok_H_areBits rfl ?_
        rintro rfl
        exact kx_zret hX hE ok_H_areBits (nx := 28) rfl rfl (Or.inr rfl) ⟨Nat.le_of_ble_eq_true rfl, Nat.le_of_ble_eq_true rfl⟩
      · refine kx_go 3 (pc' := if x0 = (32 : Int32) then 22 else 26) (lv' := [.int x0]) (st' := []) hX ok_H_areBits rfl ?_
        refine kx_ite (fun c4 => ?_) (fun c4 => ?_)
        · refine kx_go 2 (pc' := 27) (lv' := [.int x0]) (st' := [.int (1 : Int32)]) hX ok_H_areBits rfl ?_
          rintro rfl
          exact kx_zret hX hE ok_H_areBits (nx := 28) rfl rfl (Or.inr rfl) ⟨Nat.le_of_ble_eq_true rfl, Nat.le_of_ble_eq_true rfl⟩
        · refine kx_go 1 (pc' := 27) (lv' := [.int x0]) (st' := [.int (0 : Int32)]) hX ok_H_areBits rfl ?_
          rintro rfl
          exact kx_zret hX hE ok_H_areBits (nx := 28) rfl rfl (Or.inl rfl) ⟨Nat.le_of_ble_eq_true rfl, Nat.le_of_ble_eq_true rfl⟩
def L_H_sheet_75 (x1 : Int32) : Nat → Int32 → HI → Option (HI)
  | 0, _, _ => none
  | f + 1, x4, I => if (40 : Int32) ≤ x4 then (some I) else (grd (bnd x1 4) (grd (bnd x4 40) (lt (xu I (80 + x1.toNatClampNeg) x4.toNatClampNeg (0 : Int32)) fun J4 => L_H_sheet_75 x1 f (x4 + (1 : Int32)) J4)))
theorem s_L_H_sheet_75 {G : xG} {X : xC} {d : Nat} (hd : 2 ≤ d) (hX : xAmb G X m_H_sheet d 0 0)  (C : HC) (x1 : Int32) : ∀ (f : Nat) (x4 : Int32) (I : HI) (r : HI), (kW G X m_H_sheet C r 0 0 98 [.null, .null, .null, .null, .null] []) → L_H_sheet_75 x1 f x4 I = some r → kW G X m_H_sheet C I 0 0 75 [.ref 0, .int x1, .null, .null, .int x4] [] := by
  intro f
  induction f with
  | zero => intro x4 I r hk h; rw [L_H_sheet_75] at h; cases h
  | succ f ih =>
    intro x4 I r hk
    rw [L_H_sheet_75]
    refine kx_go 3 (pc' := if (40 : Int32) ≤ x4 then 98 else 82) (lv' := [.ref 0, .int x1, .null, .null, .int x4]) (st' := []) hX ok_H_sheet rfl ?_
    refine kx_ite (fun c1 => ?_) (fun c1 => ?_)
    · refine kx_weak (lv' := [.null, .null, .null, .null, .null]) (by simp [xsub]) ?_
      intro h; have h := Option.some.inj h; subst h
      exact hk
    · refine kx_go 1 (pc' := 83) (lv' := [.ref 0, .int x1, .null, .null, .int x4]) (st' := [.ref 0]) hX ok_H_sheet rfl ?_
      refine kx_getp hX ok_H_sheet rfl (q := 79) (nx := 86) rfl ?_
      refine kx_go 1 (pc' := 87) (lv' := [.ref 0, .int x1, .null, .null, .int x4]) (st' := [.int x1, .ref 79]) hX ok_H_sheet rfl ?_
      refine kx_aaG hX ok_H_sheet (nx := 88) rfl (fun b2 _ => ?_)
      refine kx_go 2 (pc' := 91) (lv' := [.ref 0, .int x1, .null, .null, .int x4]) (st' := [.int (0 : Int32), .int x4, .ref (80 + x1.toNatClampNeg)]) hX ok_H_sheet rfl ?_
      refine kx_qast (sh_kA (bnd_lt b2)) hX ok_H_sheet (nx := 92) rfl (fun b3 => ?_)
      refine kx_lt (Q := fun J4 => kW G X m_H_sheet C J4 0 0 92 [.ref 0, .int x1, .null, .null, .int x4] []) (fun J4 eJ4 => ?_)
      refine kx_go 2 (pc' := 75) (lv' := [.ref 0, .int x1, .null, .null, .int (x4 + (1 : Int32))]) (st' := []) hX ok_H_sheet rfl ?_
      exact fun h => ih (x4 + (1 : Int32)) J4 r hk h
def M_H_sheet (I : HI) (x1 : Int32) (x2 : Int32) (x3 : Int32) : Option (Int32 × HI) := if (M_H_isSheet x1) = (0 : Int32) then (Option.bind (M_H_error I (1 : Int32)) fun p2 => some (p2.1, p2.2)) else (if (M_H_areBits x2) = (0 : Int32) then (Option.bind (M_H_error I (1 : Int32)) fun p4 => some (p4.1, p4.2)) else (if x2 = (0 : Int32) then (grd (bnd x1 4) (lt (xu I 84 x1.toNatClampNeg x2) fun J7 => lt (xu J7 85 x1.toNatClampNeg (0 : Int32)) fun J8 => Option.bind (L_H_sheet_75 x1 1000 (0 : Int32) J8) fun p9 => some ((1 : Int32), p9))) else (if (0 : Int32) ≤ x3 then (if x3 ≤ (40 : Int32) then (grd (bnd x1 4) (lt (xu I 84 x1.toNatClampNeg x2) fun J13 => lt (xu J13 85 x1.toNatClampNeg x3) fun J14 => Option.bind (L_H_sheet_75 x1 1000 (0 : Int32) J14) fun p15 => some ((1 : Int32), p15))) else (Option.bind (M_H_error I (1 : Int32)) fun p16 => some (p16.1, p16.2))) else (Option.bind (M_H_error I (3 : Int32)) fun p17 => some (p17.1, p17.2)))))
theorem s_H_sheet {G : xG} {d : Nat} (hd : 2 ≤ d) (C : HC) (I : HI) (x1 : Int32) (x2 : Int32) (x3 : Int32)  (r : Int32 × HI) : M_H_sheet I x1 x2 x3 = some r → kM G d m_H_sheet [.ref 0, .int x1, .int x2, .int x3] C I 0 0 (some (.int r.1)) C r.2 := by
  unfold M_H_sheet
  refine kM.of (by decide +kernel) (Nat.le_of_ble_eq_true rfl) (lv := [.ref 0, .int x1, .int x2, .int x3, .null]) rfl (fun X hX hE => ?_)
  refine kx_go 1 (pc' := 1) (lv' := [.ref 0, .int x1, .int x2, .int x3, .null]) (st' := [.int x1]) hX ok_H_sheet rfl ?_
  refine kx_S (as := [.int x1]) hX ok_H_sheet (nx := 4) rfl l_H_260 (fun _ => s_H_isSheet (G := G) (d := 1) (Nat.le_refl _) C I x1 _ rfl) (by omega) rfl (rest := []) rfl (Nat.le_of_ble_eq_true rfl) ⟨Nat.le_of_ble_eq_true rfl, Nat.le_of_ble_eq_true rfl⟩ ?_
  show _ → kW G X m_H_sheet C I 0 0 4 [.ref 0, .int x1, .int x2, .int x3, .null] [.int (M_H_isSheet x1)]
  refine kx_go 1 (pc' := if (M_H_isSheet x1) = (0 : Int32) then 14 else 7) (lv' := [.ref 0, .int x1, .int x2, .int x3, .null]) (st' := []) hX ok_H_sheet rfl ?_
  refine kx_ite (fun c1 => ?_) (fun c1 => ?_)
  · refine kx_go 2 (pc' := 16) (lv' := [.ref 0, .int x1, .int x2, .int x3, .null]) (st' := [.int (1 : Int32), .ref 0]) hX ok_H_sheet rfl ?_
    refine kx_bind (fun p2 hp2 => ?_)
    refine kx_V (r := 0) (as := [.int (1 : Int32)]) (by decide) hX ok_H_sheet (nx := 19) rfl l_H_60 (by decide) rfl (fun _ => s_H_error (G := G) (d := 0) (Nat.le_refl _) C I (1 : Int32) p2 hp2) (by omega) rfl (rest := []) rfl (Nat.le_of_ble_eq_true rfl) ⟨Nat.le_of_ble_eq_true rfl, Nat.le_of_ble_eq_true rfl⟩ ?_
    show _ → kW G X m_H_sheet C p2.2 0 0 19 [.ref 0, .int x1, .int x2, .int x3, .null] [.int p2.1]
    intro h; have h := Option.some.inj h; subst h
    exact kx_iret hX hE ok_H_sheet (nx := 20) rfl rfl ⟨Nat.le_of_ble_eq_true rfl, Nat.le_of_ble_eq_true rfl⟩
  · refine kx_go 1 (pc' := 8) (lv' := [.ref 0, .int x1, .int x2, .int x3, .null]) (st' := [.int x2]) hX ok_H_sheet rfl ?_
    refine kx_S (as := [.int x2]) hX ok_H_sheet (nx := 11) rfl l_H_263 (fun _ => s_H_areBits (G := G) (d := 0) (Nat.le_refl _) C I x2 _ rfl) (by omega) rfl (rest := []) rfl (Nat.le_of_ble_eq_true rfl) ⟨Nat.le_of_ble_eq_true rfl, Nat.le_of_ble_eq_true rfl⟩ ?_
    show _ → kW G X m_H_sheet C I 0 0 11 [.ref 0, .int x1, .int x2, .int x3, .null] [.int (M_H_areBits x2)]
    refine kx_go 1 (pc' := if (M_H_areBits x2) = (0 : Int32) then 14 else 20) (lv' := [.ref 0, .int x1, .int x2, .int x3, .null]) (st' := []) hX ok_H_sheet rfl ?_
    refine kx_ite (fun c3 => ?_) (fun c3 => ?_)
    · refine kx_go 2 (pc' := 16) (lv' := [.ref 0, .int x1, .int x2, .int x3, .null]) (st' := [.int (1 : Int32), .ref 0]) hX ok_H_sheet rfl ?_
      refine kx_bind (fun p4 hp4 => ?_)
      refine kx_V (r := 0) (as := [.int (1 : Int32)]) (by decide) hX ok_H_sheet (nx := 19) rfl l_H_60 (by decide) rfl (fun _ => s_H_error (G := G) (d := 0) (Nat.le_refl _) C I (1 : Int32) p4 hp4) (by omega) rfl (rest := []) rfl (Nat.le_of_ble_eq_true rfl) ⟨Nat.le_of_ble_eq_true rfl, Nat.le_of_ble_eq_true rfl⟩ ?_
      show _ → kW G X m_H_sheet C p4.2 0 0 19 [.ref 0, .int x1, .int x2, .int x3, .null] [.int p4.1]
      intro h; have h := Option.some.inj h; subst h
      exact kx_iret hX hE ok_H_sheet (nx := 20) rfl rfl ⟨Nat.le_of_ble_eq_true rfl, Nat.le_of_ble_eq_true rfl⟩
    · refine kx_go 2 (pc' := if x2 = (0 : Int32) then 34 else 24) (lv' := [.ref 0, .int x1, .int x2, .int x3, .null]) (st' := []) hX ok_H_sheet rfl ?_
      refine kx_ite (fun c5 => ?_) (fun c5 => ?_)
      · refine kx_go 2 (pc' := if x2 = (0 : Int32) then 50 else 38) (lv' := [.ref 0, .int x1, .int x2, .int x3, .null]) (st' := []) hX ok_H_sheet rfl ?_
        refine kx_yes c5 ?_
        refine kx_go 1 (pc' := 51) (lv' := [.ref 0, .int x1, .int x2, .int x3, .null]) (st' := [.ref 0]) hX ok_H_sheet rfl ?_
        refine kx_getp hX ok_H_sheet rfl (q := 84) (nx := 54) rfl ?_
        refine kx_go 2 (pc' := 56) (lv' := [.ref 0, .int x1, .int x2, .int x3, .null]) (st' := [.int x2, .int x1, .ref 84]) hX ok_H_sheet rfl ?_
        refine kx_iast hX ok_H_sheet (w := 4) (nx := 57) rfl (fun b6 => ?_)
        refine kx_lt (Q := fun J7 => kW G X m_H_sheet C J7 0 0 57 [.ref 0, .int x1, .int x2, .int x3, .null] []) (fun J7 eJ7 => ?_)
        refine kx_go 1 (pc' := 58) (lv' := [.ref 0, .int x1, .int x2, .int x3, .null]) (st' := [.ref 0]) hX ok_H_sheet rfl ?_
        refine kx_getp hX ok_H_sheet rfl (q := 85) (nx := 61) rfl ?_
        refine kx_go 3 (pc' := if x2 = (0 : Int32) then 66 else 70) (lv' := [.ref 0, .int x1, .int x2, .int x3, .null]) (st' := [.int x1, .ref 85]) hX ok_H_sheet rfl ?_
        refine kx_yes c5 ?_
        refine kx_go 2 (pc' := 71) (lv' := [.ref 0, .int x1, .int x2, .int x3, .null]) (st' := [.int (0 : Int32), .int x1, .ref 85]) hX ok_H_sheet rfl ?_
        refine kx_iastc hX ok_H_sheet (w := 4) (nx := 72) rfl b6 (k := x1.toNatClampNeg) rfl ?_
        refine kx_lt (Q := fun J8 => kW G X m_H_sheet C J8 0 0 72 [.ref 0, .int x1, .int x2, .int x3, .null] []) (fun J8 eJ8 => ?_)
        refine kx_go 2 (pc' := 75) (lv' := [.ref 0, .int x1, .int x2, .int x3, .int (0 : Int32)]) (st' := []) hX ok_H_sheet rfl ?_
        refine kx_weak (lv' := [.ref 0, .int x1, .null, .null, .int (0 : Int32)]) (by simp [xsub]) ?_
        refine kx_bind (fun p9 hp9 => ?_)
        refine kx_via (fun hk => s_L_H_sheet_75 (G := G) (X := X) (by omega) hX C x1 1000 (0 : Int32) J8 p9 hk hp9) ?_
        refine kx_go 1 (pc' := 99) (lv' := [.null, .null, .null, .null, .null]) (st' := [.int (1 : Int32)]) hX ok_H_sheet rfl ?_
        intro h; have h := Option.some.inj h; subst h
        exact kx_iret hX hE ok_H_sheet (nx := 100) rfl rfl ⟨Nat.le_of_ble_eq_true rfl, Nat.le_of_ble_eq_true rfl⟩
      · refine kx_go 2 (pc' := if (0 : Int32) ≤ x3 then 34 else 28) (lv' := [.ref 0, .int x1, .int x2, .int x3, .null]) (st' := []) hX ok_H_sheet rfl ?_
        refine kx_ite (fun c10 => ?_) (fun c10 => ?_)
        · refine kx_go 2 (pc' := if x2 = (0 : Int32) then 50 else 38) (lv' := [.ref 0, .int x1, .int x2, .int x3, .null]) (st' := []) hX ok_H_sheet rfl ?_
          refine kx_no c5 ?_
          refine kx_go 3 (pc' := if x3 ≤ (40 : Int32) then 50 else 44) (lv' := [.ref 0, .int x1, .int x2, .int x3, .null]) (st' := []) hX ok_H_sheet rfl ?_
          refine kx_ite (fun c11 => ?_) (fun c11 => ?_)
          · refine kx_go 1 (pc' := 51) (lv' := [.ref 0, .int x1, .int x2, .int x3, .null]) (st' := [.ref 0]) hX ok_H_sheet rfl ?_
            refine kx_getp hX ok_H_sheet rfl (q := 84) (nx := 54) rfl ?_
            refine kx_go 2 (pc' := 56) (lv' := [.ref 0, .int x1, .int x2, .int x3, .null]) (st' := [.int x2, .int x1, .ref 84]) hX ok_H_sheet rfl ?_
            refine kx_iast hX ok_H_sheet (w := 4) (nx := 57) rfl (fun b12 => ?_)
            refine kx_lt (Q := fun J13 => kW G X m_H_sheet C J13 0 0 57 [.ref 0, .int x1, .int x2, .int x3, .null] []) (fun J13 eJ13 => ?_)
            refine kx_go 1 (pc' := 58) (lv' := [.ref 0, .int x1, .int x2, .int x3, .null]) (st' := [.ref 0]) hX ok_H_sheet rfl ?_
            refine kx_getp hX ok_H_sheet rfl (q := 85) (nx := 61) rfl ?_
            refine kx_go 3 (pc' := if x2 = (0 : Int32) then 66 else 70) (lv' := [.ref 0, .int x1, .int x2, .int x3, .null]) (st' := [.int x1, .ref 85]) hX ok_H_sheet rfl ?_
            refine kx_no c5 ?_
            refine kx_go 1 (pc' := 71) (lv' := [.ref 0, .int x1, .int x2, .int x3, .null]) (st' := [.int x3, .int x1, .ref 85]) hX ok_H_sheet rfl ?_
            refine kx_iastc hX ok_H_sheet (w := 4) (nx := 72) rfl b12 (k := x1.toNatClampNeg) rfl ?_
            refine kx_lt (Q := fun J14 => kW G X m_H_sheet C J14 0 0 72 [.ref 0, .int x1, .int x2, .int x3, .null] []) (fun J14 eJ14 => ?_)
            refine kx_go 2 (pc' := 75) (lv' := [.ref 0, .int x1, .int x2, .int x3, .int (0 : Int32)]) (st' := []) hX ok_H_sheet rfl ?_
            refine kx_weak (lv' := [.ref 0, .int x1, .null, .null, .int (0 : Int32)]) (by simp [xsub]) ?_
            refine kx_bind (fun p15 hp15 => ?_)
            refine kx_via (fun hk => s_L_H_sheet_75 (G := G) (X := X) (by omega) hX C x1 1000 (0 : Int32) J14 p15 hk hp15) ?_
            refine kx_go 1 (pc' := 99) (lv' := [.null, .null, .null, .null, .null]) (st' := [.int (1 : Int32)]) hX ok_H_sheet rfl ?_
            intro h; have h := Option.some.inj h; subst h
            exact kx_iret hX hE ok_H_sheet (nx := 100) rfl rfl ⟨Nat.le_of_ble_eq_true rfl, Nat.le_of_ble_eq_true rfl⟩
          · refine kx_go 2 (pc' := 46) (lv' := [.ref 0, .int x1, .int x2, .int x3, .null]) (st' := [.int (1 : Int32), .ref 0]) hX ok_H_sheet rfl ?_
            refine kx_bind (fun p16 hp16 => ?_)
            refine kx_V (r := 0) (as := [.int (1 : Int32)]) (by decide) hX ok_H_sheet (nx := 49) rfl l_H_60 (by decide) rfl (fun _ => s_H_error (G := G) (d := 0) (Nat.le_refl _) C I (1 : Int32) p16 hp16) (by omega) rfl (rest := []) rfl (Nat.le_of_ble_eq_true rfl) ⟨Nat.le_of_ble_eq_true rfl, Nat.le_of_ble_eq_true rfl⟩ ?_
            show _ → kW G X m_H_sheet C p16.2 0 0 49 [.ref 0, .int x1, .int x2, .int x3, .null] [.int p16.1]
            intro h; have h := Option.some.inj h; subst h
            exact kx_iret hX hE ok_H_sheet (nx := 50) rfl rfl ⟨Nat.le_of_ble_eq_true rfl, Nat.le_of_ble_eq_true rfl⟩
        · refine kx_go 2 (pc' := 30) (lv' := [.ref 0, .int x1, .int x2, .int x3, .null]) (st' := [.int (3 : Int32), .ref 0]) hX ok_H_sheet rfl ?_
          refine kx_bind (fun p17 hp17 => ?_)
          refine kx_V (r := 0) (as := [.int (3 : Int32)]) (by decide) hX ok_H_sheet (nx := 33) rfl l_H_60 (by decide) rfl (fun _ => s_H_error (G := G) (d := 0) (Nat.le_refl _) C I (3 : Int32) p17 hp17) (by omega) rfl (rest := []) rfl (Nat.le_of_ble_eq_true rfl) ⟨Nat.le_of_ble_eq_true rfl, Nat.le_of_ble_eq_true rfl⟩ ?_
          show _ → kW G X m_H_sheet C p17.2 0 0 33 [.ref 0, .int x1, .int x2, .int x3, .null] [.int p17.1]
          intro h; have h := Option.some.inj h; subst h
          exact kx_iret hX hE ok_H_sheet (nx := 34) rfl rfl ⟨Nat.le_of_ble_eq_true rfl, Nat.le_of_ble_eq_true rfl⟩
def M_H_put (I : HI) (x1 : Int32) (x2 : Int32) (x3 : Int32) : Option (Int32 × HI) := if (M_H_isSheet x1) = (0 : Int32) then (Option.bind (M_H_error I (1 : Int32)) fun p2 => some (p2.1, p2.2)) else (grd (bnd x1 4) (if (I 84 x1.toNatClampNeg) = (0 : Int32) then (Option.bind (M_H_error I (2 : Int32)) fun p5 => some (p5.1, p5.2)) else (if x2 < (0 : Int32) then (Option.bind (M_H_error I (1 : Int32)) fun p7 => some (p7.1, p7.2)) else (if x2 < (I 85 x1.toNatClampNeg) then (grd (bnd x2 40) (lt (xu I (80 + x1.toNatClampNeg) x2.toNatClampNeg ((x3 <<< (((32 : Int32) - (I 84 x1.toNatClampNeg)) &&& (31 : Int32))) >>> (((32 : Int32) - (I 84 x1.toNatClampNeg)) &&& (31 : Int32)))) fun J10 => some ((1 : Int32), J10))) else (Option.bind (M_H_error I (1 : Int32)) fun p11 => some (p11.1, p11.2))))))
theorem s_H_put {G : xG} {d : Nat} (hd : 2 ≤ d) (C : HC) (I : HI) (x1 : Int32) (x2 : Int32) (x3 : Int32)  (r : Int32 × HI) : M_H_put I x1 x2 x3 = some r → kM G d m_H_put [.ref 0, .int x1, .int x2, .int x3] C I 0 0 (some (.int r.1)) C r.2 := by
  unfold M_H_put
  refine kM.of (by decide +kernel) (Nat.le_of_ble_eq_true rfl) (lv := [.ref 0, .int x1, .int x2, .int x3, .null]) rfl (fun X hX hE => ?_)
  refine kx_go 1 (pc' := 1) (lv' := [.ref 0, .int x1, .int x2, .int x3, .null]) (st' := [.int x1]) hX ok_H_put rfl ?_
  refine kx_S (as := [.int x1]) hX ok_H_put (nx := 4) rfl l_H_260 (fun _ => s_H_isSheet (G := G) (d := 1) (Nat.le_refl _) C I x1 _ rfl) (by omega) rfl (rest := []) rfl (Nat.le_of_ble_eq_true rfl) ⟨Nat.le_of_ble_eq_true rfl, Nat.le_of_ble_eq_true rfl⟩ ?_
  show _ → kW G X m_H_put C I 0 0 4 [.ref 0, .int x1, .int x2, .int x3, .null] [.int (M_H_isSheet x1)]
  refine kx_go 1 (pc' := if (M_H_isSheet x1) = (0 : Int32) then 7 else 13) (lv' := [.ref 0, .int x1, .int x2, .int x3, .null]) (st' := []) hX ok_H_put rfl ?_
  refine kx_ite (fun c1 => ?_) (fun c1 => ?_)
  · refine kx_go 2 (pc' := 9) (lv' := [.ref 0, .int x1, .int x2, .int x3, .null]) (st' := [.int (1 : Int32), .ref 0]) hX ok_H_put rfl ?_
    refine kx_bind (fun p2 hp2 => ?_)
    refine kx_V (r := 0) (as := [.int (1 : Int32)]) (by decide) hX ok_H_put (nx := 12) rfl l_H_60 (by decide) rfl (fun _ => s_H_error (G := G) (d := 0) (Nat.le_refl _) C I (1 : Int32) p2 hp2) (by omega) rfl (rest := []) rfl (Nat.le_of_ble_eq_true rfl) ⟨Nat.le_of_ble_eq_true rfl, Nat.le_of_ble_eq_true rfl⟩ ?_
    show _ → kW G X m_H_put C p2.2 0 0 12 [.ref 0, .int x1, .int x2, .int x3, .null] [.int p2.1]
    intro h; have h := Option.some.inj h; subst h
    exact kx_iret hX hE ok_H_put (nx := 13) rfl rfl ⟨Nat.le_of_ble_eq_true rfl, Nat.le_of_ble_eq_true rfl⟩
  · refine kx_go 1 (pc' := 14) (lv' := [.ref 0, .int x1, .int x2, .int x3, .null]) (st' := [.ref 0]) hX ok_H_put rfl ?_
    refine kx_getp hX ok_H_put rfl (q := 84) (nx := 17) rfl ?_
    refine kx_go 1 (pc' := 18) (lv' := [.ref 0, .int x1, .int x2, .int x3, .null]) (st' := [.int x1, .ref 84]) hX ok_H_put rfl ?_
    refine kx_iald hX ok_H_put (w := 4) (nx := 19) rfl (fun b3 => ?_)
    refine kx_go 1 (pc' := if (I 84 x1.toNatClampNeg) = (0 : Int32) then 22 else 28) (lv' := [.ref 0, .int x1, .int x2, .int x3, .null]) (st' := []) hX ok_H_put rfl ?_
    refine kx_ite (fun c4 => ?_) (fun c4 => ?_)
    · refine kx_go 2 (pc' := 24) (lv' := [.ref 0, .int x1, .int x2, .int x3, .null]) (st' := [.int (2 : Int32), .ref 0]) hX ok_H_put rfl ?_
      refine kx_bind (fun p5 hp5 => ?_)
      refine kx_V (r := 0) (as := [.int (2 : Int32)]) (by decide) hX ok_H_put (nx := 27) rfl l_H_60 (by decide) rfl (fun _ => s_H_error (G := G) (d := 0) (Nat.le_refl _) C I (2 : Int32) p5 hp5) (by omega) rfl (rest := []) rfl (Nat.le_of_ble_eq_true rfl) ⟨Nat.le_of_ble_eq_true rfl, Nat.le_of_ble_eq_true rfl⟩ ?_
      show _ → kW G X m_H_put C p5.2 0 0 27 [.ref 0, .int x1, .int x2, .int x3, .null] [.int p5.1]
      intro h; have h := Option.some.inj h; subst h
      exact kx_iret hX hE ok_H_put (nx := 28) rfl rfl ⟨Nat.le_of_ble_eq_true rfl, Nat.le_of_ble_eq_true rfl⟩
    · refine kx_go 2 (pc' := if x2 < (0 : Int32) then 42 else 32) (lv' := [.ref 0, .int x1, .int x2, .int x3, .null]) (st' := []) hX ok_H_put rfl ?_
      refine kx_ite (fun c6 => ?_) (fun c6 => ?_)
      · refine kx_go 2 (pc' := 44) (lv' := [.ref 0, .int x1, .int x2, .int x3, .null]) (st' := [.int (1 : Int32), .ref 0]) hX ok_H_put rfl ?_
        refine kx_bind (fun p7 hp7 => ?_)
        refine kx_V (r := 0) (as := [.int (1 : Int32)]) (by decide) hX ok_H_put (nx := 47) rfl l_H_60 (by decide) rfl (fun _ => s_H_error (G := G) (d := 0) (Nat.le_refl _) C I (1 : Int32) p7 hp7) (by omega) rfl (rest := []) rfl (Nat.le_of_ble_eq_true rfl) ⟨Nat.le_of_ble_eq_true rfl, Nat.le_of_ble_eq_true rfl⟩ ?_
        show _ → kW G X m_H_put C p7.2 0 0 47 [.ref 0, .int x1, .int x2, .int x3, .null] [.int p7.1]
        intro h; have h := Option.some.inj h; subst h
        exact kx_iret hX hE ok_H_put (nx := 48) rfl rfl ⟨Nat.le_of_ble_eq_true rfl, Nat.le_of_ble_eq_true rfl⟩
      · refine kx_go 2 (pc' := 34) (lv' := [.ref 0, .int x1, .int x2, .int x3, .null]) (st' := [.ref 0, .int x2]) hX ok_H_put rfl ?_
        refine kx_getp hX ok_H_put rfl (q := 85) (nx := 37) rfl ?_
        refine kx_go 1 (pc' := 38) (lv' := [.ref 0, .int x1, .int x2, .int x3, .null]) (st' := [.int x1, .ref 85, .int x2]) hX ok_H_put rfl ?_
        refine kx_ialdc hX ok_H_put (w := 4) (nx := 39) rfl b3 (k := x1.toNatClampNeg) rfl ?_
        refine kx_go 1 (pc' := if x2 < (I 85 x1.toNatClampNeg) then 48 else 42) (lv' := [.ref 0, .int x1, .int x2, .int x3, .null]) (st' := []) hX ok_H_put rfl ?_
        refine kx_ite (fun c8 => ?_) (fun c8 => ?_)
        · refine kx_go 2 (pc' := 51) (lv' := [.ref 0, .int x1, .int x2, .int x3, .null]) (st' := [.ref 0, .int (32 : Int32)]) hX ok_H_put rfl ?_
          refine kx_getp hX ok_H_put rfl (q := 84) (nx := 54) rfl ?_
          refine kx_go 1 (pc' := 55) (lv' := [.ref 0, .int x1, .int x2, .int x3, .null]) (st' := [.int x1, .ref 84, .int (32 : Int32)]) hX ok_H_put rfl ?_
          refine kx_ialdc hX ok_H_put (w := 4) (nx := 56) rfl b3 (k := x1.toNatClampNeg) rfl ?_
          refine kx_go 3 (pc' := 60) (lv' := [.ref 0, .int x1, .int x2, .int x3, .int ((32 : Int32) - (I 84 x1.toNatClampNeg))]) (st' := [.ref 0]) hX ok_H_put rfl ?_
          refine kx_getp hX ok_H_put rfl (q := 79) (nx := 63) rfl ?_
          refine kx_go 1 (pc' := 64) (lv' := [.ref 0, .int x1, .int x2, .int x3, .int ((32 : Int32) - (I 84 x1.toNatClampNeg))]) (st' := [.int x1, .ref 79]) hX ok_H_put rfl ?_
          refine kx_aaGk b3 hX ok_H_put (nx := 65) rfl ?_
          refine kx_go 6 (pc' := 73) (lv' := [.ref 0, .int x1, .int x2, .int x3, .int ((32 : Int32) - (I 84 x1.toNatClampNeg))]) (st' := [.int ((x3 <<< (((32 : Int32) - (I 84 x1.toNatClampNeg)) &&& (31 : Int32))) >>> (((32 : Int32) - (I 84 x1.toNatClampNeg)) &&& (31 : Int32))), .int x2, .ref (80 + x1.toNatClampNeg)]) hX ok_H_put rfl ?_
          refine kx_qast (sh_kA (bnd_lt b3)) hX ok_H_put (nx := 74) rfl (fun b9 => ?_)
          refine kx_lt (Q := fun J10 => kW G X m_H_put C J10 0 0 74 [.ref 0, .int x1, .int x2, .int x3, .int ((32 : Int32) - (I 84 x1.toNatClampNeg))] []) (fun J10 eJ10 => ?_)
          refine kx_go 1 (pc' := 75) (lv' := [.ref 0, .int x1, .int x2, .int x3, .int ((32 : Int32) - (I 84 x1.toNatClampNeg))]) (st' := [.int (1 : Int32)]) hX ok_H_put rfl ?_
          intro h; have h := Option.some.inj h; subst h
          exact kx_iret hX hE ok_H_put (nx := 76) rfl rfl ⟨Nat.le_of_ble_eq_true rfl, Nat.le_of_ble_eq_true rfl⟩
        · refine kx_go 2 (pc' := 44) (lv' := [.ref 0, .int x1, .int x2, .int x3, .null]) (st' := [.int (1 : Int32), .ref 0]) hX ok_H_put rfl ?_
          refine kx_bind (fun p11 hp11 => ?_)
          refine kx_V (r := 0) (as := [.int (1 : Int32)]) (by decide) hX ok_H_put (nx := 47) rfl l_H_60 (by decide) rfl (fun _ => s_H_error (G := G) (d := 0) (Nat.le_refl _) C I (1 : Int32) p11 hp11) (by omega) rfl (rest := []) rfl (Nat.le_of_ble_eq_true rfl) ⟨Nat.le_of_ble_eq_true rfl, Nat.le_of_ble_eq_true rfl⟩ ?_
          show _ → kW G X m_H_put C p11.2 0 0 47 [.ref 0, .int x1, .int x2, .int x3, .null] [.int p11.1]
          intro h; have h := Option.some.inj h; subst h
          exact kx_iret hX hE ok_H_put (nx := 48) rfl rfl ⟨Nat.le_of_ble_eq_true rfl, Nat.le_of_ble_eq_true rfl⟩
def M_H_stand (I : HI) (x1 : Int32) (x2 : Int32) (x3 : Int32) : Option (Int32) := if x3 < (0 : Int32) then (some (0 : Int32)) else (if x2 < (0 : Int32) then (some (0 : Int32)) else (grd (bnd x1 4) (if (I 85 x1.toNatClampNeg) < x3 then (some (0 : Int32)) else (if ((I 85 x1.toNatClampNeg) - x3) < x2 then (some (0 : Int32)) else (some (1 : Int32))))))
theorem s_H_stand {G : xG} {d : Nat} (hd : 0 ≤ d) (C : HC) (I : HI) (x1 : Int32) (x2 : Int32) (x3 : Int32)  (r : Int32) : M_H_stand I x1 x2 x3 = some r → kM G d m_H_stand [.ref 0, .int x1, .int x2, .int x3] C I 0 0 (some (.int r)) C I := by
  unfold M_H_stand
  refine kM.of (by decide +kernel) (Nat.le_of_ble_eq_true rfl) (lv := [.ref 0, .int x1, .int x2, .int x3]) rfl (fun X hX hE => ?_)
  refine kx_go 2 (pc' := if x3 < (0 : Int32) then 34 else 4) (lv' := [.ref 0, .int x1, .int x2, .int x3]) (st' := []) hX ok_H_stand rfl ?_
  refine kx_ite (fun c1 => ?_) (fun c1 => ?_)
  · refine kx_go 1 (pc' := 35) (lv' := [.ref 0, .int x1, .int x2, .int x3]) (st' := [.int (0 : Int32)]) hX ok_H_stand rfl ?_
    intro h; have h := Option.some.inj h; subst h
    exact kx_zret hX hE ok_H_stand (nx := 36) rfl rfl (Or.inl rfl) ⟨Nat.le_of_ble_eq_true rfl, Nat.le_of_ble_eq_true rfl⟩
  · refine kx_go 2 (pc' := if x2 < (0 : Int32) then 34 else 8) (lv' := [.ref 0, .int x1, .int x2, .int x3]) (st' := []) hX ok_H_stand rfl ?_
    refine kx_ite (fun c2 => ?_) (fun c2 => ?_)
    · refine kx_go 1 (pc' := 35) (lv' := [.ref 0, .int x1, .int x2, .int x3]) (st' := [.int (0 : Int32)]) hX ok_H_stand rfl ?_
      intro h; have h := Option.some.inj h; subst h
      exact kx_zret hX hE ok_H_stand (nx := 36) rfl rfl (Or.inl rfl) ⟨Nat.le_of_ble_eq_true rfl, Nat.le_of_ble_eq_true rfl⟩
    · refine kx_go 2 (pc' := 10) (lv' := [.ref 0, .int x1, .int x2, .int x3]) (st' := [.ref 0, .int x3]) hX ok_H_stand rfl ?_
      refine kx_getp hX ok_H_stand rfl (q := 85) (nx := 13) rfl ?_
      refine kx_go 1 (pc' := 14) (lv' := [.ref 0, .int x1, .int x2, .int x3]) (st' := [.int x1, .ref 85, .int x3]) hX ok_H_stand rfl ?_
      refine kx_iald hX ok_H_stand (w := 4) (nx := 15) rfl (fun b3 => ?_)
      refine kx_go 1 (pc' := if (I 85 x1.toNatClampNeg) < x3 then 34 else 18) (lv' := [.ref 0, .int x1, .int x2, .int x3]) (st' := []) hX ok_H_stand rfl ?_
      refine kx_ite (fun c4 => ?_) (fun c4 => ?_)
      · refine kx_go 1 (pc' := 35) (lv' := [.ref 0, .int x1, .int x2, .int x3]) (st' := [.int (0 : Int32)]) hX ok_H_stand rfl ?_
        intro h; have h := Option.some.inj h; subst h
        exact kx_zret hX hE ok_H_stand (nx := 36) rfl rfl (Or.inl rfl) ⟨Nat.le_of_ble_eq_true rfl, Nat.le_of_ble_eq_true rfl⟩
      · refine kx_go 2 (pc' := 20) (lv' := [.ref 0, .int x1, .int x2, .int x3]) (st' := [.ref 0, .int x2]) hX ok_H_stand rfl ?_
        refine kx_getp hX ok_H_stand rfl (q := 85) (nx := 23) rfl ?_
        refine kx_go 1 (pc' := 24) (lv' := [.ref 0, .int x1, .int x2, .int x3]) (st' := [.int x1, .ref 85, .int x2]) hX ok_H_stand rfl ?_
        refine kx_ialdc hX ok_H_stand (w := 4) (nx := 25) rfl b3 (k := x1.toNatClampNeg) rfl ?_
        refine kx_go 3 (pc' := if ((I 85 x1.toNatClampNeg) - x3) < x2 then 34 else 30) (lv' := [.ref 0, .int x1, .int x2, .int x3]) (st' := []) hX ok_H_stand rfl ?_
        refine kx_ite (fun c5 => ?_) (fun c5 => ?_)
        · refine kx_go 1 (pc' := 35) (lv' := [.ref 0, .int x1, .int x2, .int x3]) (st' := [.int (0 : Int32)]) hX ok_H_stand rfl ?_
          intro h; have h := Option.some.inj h; subst h
          exact kx_zret hX hE ok_H_stand (nx := 36) rfl rfl (Or.inl rfl) ⟨Nat.le_of_ble_eq_true rfl, Nat.le_of_ble_eq_true rfl⟩
        · refine kx_go 2 (pc' := 35) (lv' := [.ref 0, .int x1, .int x2, .int x3]) (st' := [.int (1 : Int32)]) hX ok_H_stand rfl ?_
          intro h; have h := Option.some.inj h; subst h
          exact kx_zret hX hE ok_H_stand (nx := 36) rfl rfl (Or.inr rfl) ⟨Nat.le_of_ble_eq_true rfl, Nat.le_of_ble_eq_true rfl⟩
def M_H_move (I : HI) (x1 : Int32) (x2 : Int32) (x3 : Int32) (x4 : Int32) (x5 : Int32) : Option (Int32 × HI) := if (M_H_isSheet x1) = (0 : Int32) then (Option.bind (M_H_error I (1 : Int32)) fun p2 => some (p2.1, p2.2)) else (if (M_H_isSheet x3) = (0 : Int32) then (Option.bind (M_H_error I (1 : Int32)) fun p4 => some (p4.1, p4.2)) else (grd (bnd x1 4) (if (I 84 x1.toNatClampNeg) = (0 : Int32) then (Option.bind (M_H_error I (2 : Int32)) fun p7 => some (p7.1, p7.2)) else (grd (bnd x3 4) (if (I 84 x3.toNatClampNeg) = (0 : Int32) then (Option.bind (M_H_error I (2 : Int32)) fun p10 => some (p10.1, p10.2)) else (if (I 84 x1.toNatClampNeg) = (I 84 x3.toNatClampNeg) then (Option.bind (M_H_stand I x1 x2 x5) fun p12 => if p12 = (0 : Int32) then (Option.bind (M_H_error I (1 : Int32)) fun p14 => some (p14.1, p14.2)) else (Option.bind (M_H_stand I x3 x4 x5) fun p15 => if p15 = (0 : Int32) then (Option.bind (M_H_error I (1 : Int32)) fun p17 => some (p17.1, p17.2)) else (grd (bcp x2 x4 x5 40 40) (lt (xrow I (80 + x3.toNatClampNeg) (va_cpy (I (80 + x1.toNatClampNeg)) (I (80 + x3.toNatClampNeg)) x2.toNatClampNeg x4.toNatClampNeg x5.toNatClampNeg)) fun J18 => some (x5, J18))))) else (Option.bind (M_H_error I (5 : Int32)) fun p19 => some (p19.1, p19.2))))))))
theorem s_H_move {G : xG} {d : Nat} (hd : 2 ≤ d) (C : HC) (I : HI) (x1 : Int32) (x2 : Int32) (x3 : Int32) (x4 : Int32) (x5 : Int32)  (r : Int32 × HI) : M_H_move I x1 x2 x3 x4 x5 = some r → kM G d m_H_move [.ref 0, .int x1, .int x2, .int x3, .int x4, .int x5] C I 0 0 (some (.int r.1)) C r.2 := by
  unfold M_H_move
  refine kM.of (by decide +kernel) (Nat.le_of_ble_eq_true rfl) (lv := [.ref 0, .int x1, .int x2, .int x3, .int x4, .int x5]) rfl (fun X hX hE => ?_)
  refine kx_go 1 (pc' := 1) (lv' := [.ref 0, .int x1, .int x2, .int x3, .int x4, .int x5]) (st' := [.int x1]) hX ok_H_move rfl ?_
  refine kx_S (as := [.int x1]) hX ok_H_move (nx := 4) rfl l_H_260 (fun _ => s_H_isSheet (G := G) (d := 1) (Nat.le_refl _) C I x1 _ rfl) (by omega) rfl (rest := []) rfl (Nat.le_of_ble_eq_true rfl) ⟨Nat.le_of_ble_eq_true rfl, Nat.le_of_ble_eq_true rfl⟩ ?_
  show _ → kW G X m_H_move C I 0 0 4 [.ref 0, .int x1, .int x2, .int x3, .int x4, .int x5] [.int (M_H_isSheet x1)]
  refine kx_go 1 (pc' := if (M_H_isSheet x1) = (0 : Int32) then 14 else 7) (lv' := [.ref 0, .int x1, .int x2, .int x3, .int x4, .int x5]) (st' := []) hX ok_H_move rfl ?_
  refine kx_ite (fun c1 => ?_) (fun c1 => ?_)
  · refine kx_go 2 (pc' := 16) (lv' := [.ref 0, .int x1, .int x2, .int x3, .int x4, .int x5]) (st' := [.int (1 : Int32), .ref 0]) hX ok_H_move rfl ?_
    refine kx_bind (fun p2 hp2 => ?_)
    refine kx_V (r := 0) (as := [.int (1 : Int32)]) (by decide) hX ok_H_move (nx := 19) rfl l_H_60 (by decide) rfl (fun _ => s_H_error (G := G) (d := 0) (Nat.le_refl _) C I (1 : Int32) p2 hp2) (by omega) rfl (rest := []) rfl (Nat.le_of_ble_eq_true rfl) ⟨Nat.le_of_ble_eq_true rfl, Nat.le_of_ble_eq_true rfl⟩ ?_
    show _ → kW G X m_H_move C p2.2 0 0 19 [.ref 0, .int x1, .int x2, .int x3, .int x4, .int x5] [.int p2.1]
    intro h; have h := Option.some.inj h; subst h
    exact kx_iret hX hE ok_H_move (nx := 20) rfl rfl ⟨Nat.le_of_ble_eq_true rfl, Nat.le_of_ble_eq_true rfl⟩
  · refine kx_go 1 (pc' := 8) (lv' := [.ref 0, .int x1, .int x2, .int x3, .int x4, .int x5]) (st' := [.int x3]) hX ok_H_move rfl ?_
    refine kx_S (as := [.int x3]) hX ok_H_move (nx := 11) rfl l_H_260 (fun _ => s_H_isSheet (G := G) (d := 1) (Nat.le_refl _) C I x3 _ rfl) (by omega) rfl (rest := []) rfl (Nat.le_of_ble_eq_true rfl) ⟨Nat.le_of_ble_eq_true rfl, Nat.le_of_ble_eq_true rfl⟩ ?_
    show _ → kW G X m_H_move C I 0 0 11 [.ref 0, .int x1, .int x2, .int x3, .int x4, .int x5] [.int (M_H_isSheet x3)]
    refine kx_go 1 (pc' := if (M_H_isSheet x3) = (0 : Int32) then 14 else 20) (lv' := [.ref 0, .int x1, .int x2, .int x3, .int x4, .int x5]) (st' := []) hX ok_H_move rfl ?_
    refine kx_ite (fun c3 => ?_) (fun c3 => ?_)
    · refine kx_go 2 (pc' := 16) (lv' := [.ref 0, .int x1, .int x2, .int x3, .int x4, .int x5]) (st' := [.int (1 : Int32), .ref 0]) hX ok_H_move rfl ?_
      refine kx_bind (fun p4 hp4 => ?_)
      refine kx_V (r := 0) (as := [.int (1 : Int32)]) (by decide) hX ok_H_move (nx := 19) rfl l_H_60 (by decide) rfl (fun _ => s_H_error (G := G) (d := 0) (Nat.le_refl _) C I (1 : Int32) p4 hp4) (by omega) rfl (rest := []) rfl (Nat.le_of_ble_eq_true rfl) ⟨Nat.le_of_ble_eq_true rfl, Nat.le_of_ble_eq_true rfl⟩ ?_
      show _ → kW G X m_H_move C p4.2 0 0 19 [.ref 0, .int x1, .int x2, .int x3, .int x4, .int x5] [.int p4.1]
      intro h; have h := Option.some.inj h; subst h
      exact kx_iret hX hE ok_H_move (nx := 20) rfl rfl ⟨Nat.le_of_ble_eq_true rfl, Nat.le_of_ble_eq_true rfl⟩
    · refine kx_go 1 (pc' := 21) (lv' := [.ref 0, .int x1, .int x2, .int x3, .int x4, .int x5]) (st' := [.ref 0]) hX ok_H_move rfl ?_
      refine kx_getp hX ok_H_move rfl (q := 84) (nx := 24) rfl ?_
      refine kx_go 1 (pc' := 25) (lv' := [.ref 0, .int x1, .int x2, .int x3, .int x4, .int x5]) (st' := [.int x1, .ref 84]) hX ok_H_move rfl ?_
      refine kx_iald hX ok_H_move (w := 4) (nx := 26) rfl (fun b5 => ?_)
      refine kx_go 1 (pc' := if (I 84 x1.toNatClampNeg) = (0 : Int32) then 38 else 29) (lv' := [.ref 0, .int x1, .int x2, .int x3, .int x4, .int x5]) (st' := []) hX ok_H_move rfl ?_
      refine kx_ite (fun c6 => ?_) (fun c6 => ?_)
      · refine kx_go 2 (pc' := 40) (lv' := [.ref 0, .int x1, .int x2, .int x3, .int x4, .int x5]) (st' := [.int (2 : Int32), .ref 0]) hX ok_H_move rfl ?_
        refine kx_bind (fun p7 hp7 => ?_)
        refine kx_V (r := 0) (as := [.int (2 : Int32)]) (by decide) hX ok_H_move (nx := 43) rfl l_H_60 (by decide) rfl (fun _ => s_H_error (G := G) (d := 0) (Nat.le_refl _) C I (2 : Int32) p7 hp7) (by omega) rfl (rest := []) rfl (Nat.le_of_ble_eq_true rfl) ⟨Nat.le_of_ble_eq_true rfl, Nat.le_of_ble_eq_true rfl⟩ ?_
        show _ → kW G X m_H_move C p7.2 0 0 43 [.ref 0, .int x1, .int x2, .int x3, .int x4, .int x5] [.int p7.1]
        intro h; have h := Option.some.inj h; subst h
        exact kx_iret hX hE ok_H_move (nx := 44) rfl rfl ⟨Nat.le_of_ble_eq_true rfl, Nat.le_of_ble_eq_true rfl⟩
      · refine kx_go 1 (pc' := 30) (lv' := [.ref 0, .int x1, .int x2, .int x3, .int x4, .int x5]) (st' := [.ref 0]) hX ok_H_move rfl ?_
        refine kx_getp hX ok_H_move rfl (q := 84) (nx := 33) rfl ?_
        refine kx_go 1 (pc' := 34) (lv' := [.ref 0, .int x1, .int x2, .int x3, .int x4, .int x5]) (st' := [.int x3, .ref 84]) hX ok_H_move rfl ?_
        refine kx_iald hX ok_H_move (w := 4) (nx := 35) rfl (fun b8 => ?_)
        refine kx_go 1 (pc' := if (I 84 x3.toNatClampNeg) = (0 : Int32) then 38 else 44) (lv' := [.ref 0, .int x1, .int x2, .int x3, .int x4, .int x5]) (st' := []) hX ok_H_move rfl ?_
        refine kx_ite (fun c9 => ?_) (fun c9 => ?_)
        · refine kx_go 2 (pc' := 40) (lv' := [.ref 0, .int x1, .int x2, .int x3, .int x4, .int x5]) (st' := [.int (2 : Int32), .ref 0]) hX ok_H_move rfl ?_
          refine kx_bind (fun p10 hp10 => ?_)
          refine kx_V (r := 0) (as := [.int (2 : Int32)]) (by decide) hX ok_H_move (nx := 43) rfl l_H_60 (by decide) rfl (fun _ => s_H_error (G := G) (d := 0) (Nat.le_refl _) C I (2 : Int32) p10 hp10) (by omega) rfl (rest := []) rfl (Nat.le_of_ble_eq_true rfl) ⟨Nat.le_of_ble_eq_true rfl, Nat.le_of_ble_eq_true rfl⟩ ?_
          show _ → kW G X m_H_move C p10.2 0 0 43 [.ref 0, .int x1, .int x2, .int x3, .int x4, .int x5] [.int p10.1]
          intro h; have h := Option.some.inj h; subst h
          exact kx_iret hX hE ok_H_move (nx := 44) rfl rfl ⟨Nat.le_of_ble_eq_true rfl, Nat.le_of_ble_eq_true rfl⟩
        · refine kx_go 1 (pc' := 45) (lv' := [.ref 0, .int x1, .int x2, .int x3, .int x4, .int x5]) (st' := [.ref 0]) hX ok_H_move rfl ?_
          refine kx_getp hX ok_H_move rfl (q := 84) (nx := 48) rfl ?_
          refine kx_go 1 (pc' := 49) (lv' := [.ref 0, .int x1, .int x2, .int x3, .int x4, .int x5]) (st' := [.int x1, .ref 84]) hX ok_H_move rfl ?_
          refine kx_ialdc hX ok_H_move (w := 4) (nx := 50) rfl b5 (k := x1.toNatClampNeg) rfl ?_
          refine kx_go 1 (pc' := 51) (lv' := [.ref 0, .int x1, .int x2, .int x3, .int x4, .int x5]) (st' := [.ref 0, .int (I 84 x1.toNatClampNeg)]) hX ok_H_move rfl ?_
          refine kx_getp hX ok_H_move rfl (q := 84) (nx := 54) rfl ?_
          refine kx_go 1 (pc' := 55) (lv' := [.ref 0, .int x1, .int x2, .int x3, .int x4, .int x5]) (st' := [.int x3, .ref 84, .int (I 84 x1.toNatClampNeg)]) hX ok_H_move rfl ?_
          refine kx_ialdc hX ok_H_move (w := 4) (nx := 56) rfl b8 (k := x3.toNatClampNeg) rfl ?_
          refine kx_go 1 (pc' := if (I 84 x1.toNatClampNeg) = (I 84 x3.toNatClampNeg) then 65 else 59) (lv' := [.ref 0, .int x1, .int x2, .int x3, .int x4, .int x5]) (st' := []) hX ok_H_move rfl ?_
          refine kx_ite (fun c11 => ?_) (fun c11 => ?_)
          · refine kx_go 4 (pc' := 70) (lv' := [.ref 0, .int x1, .int x2, .int x3, .int x4, .int x5]) (st' := [.int x5, .int x2, .int x1, .ref 0]) hX ok_H_move rfl ?_
            refine kx_bind (fun p12 hp12 => ?_)
            refine kx_V (r := 0) (as := [.int x1, .int x2, .int x5]) (by decide) hX ok_H_move (nx := 73) rfl l_H_266 (by decide) rfl (fun _ => s_H_stand (G := G) (d := 0) (Nat.le_refl _) C I x1 x2 x5 p12 hp12) (by omega) rfl (rest := []) rfl (Nat.le_of_ble_eq_true rfl) ⟨Nat.le_of_ble_eq_true rfl, Nat.le_of_ble_eq_true rfl⟩ ?_
            show _ → kW G X m_H_move C I 0 0 73 [.ref 0, .int x1, .int x2, .int x3, .int x4, .int x5] [.int p12]
            refine kx_go 1 (pc' := if p12 = (0 : Int32) then 88 else 76) (lv' := [.ref 0, .int x1, .int x2, .int x3, .int x4, .int x5]) (st' := []) hX ok_H_move rfl ?_
            refine kx_ite (fun c13 => ?_) (fun c13 => ?_)
            · refine kx_go 2 (pc' := 90) (lv' := [.ref 0, .int x1, .int x2, .int x3, .int x4, .int x5]) (st' := [.int (1 : Int32), .ref 0]) hX ok_H_move rfl ?_
              refine kx_bind (fun p14 hp14 => ?_)
              refine kx_V (r := 0) (as := [.int (1 : Int32)]) (by decide) hX ok_H_move (nx := 93) rfl l_H_60 (by decide) rfl (fun _ => s_H_error (G := G) (d := 0) (Nat.le_refl _) C I (1 : Int32) p14 hp14) (by omega) rfl (rest := []) rfl (Nat.le_of_ble_eq_true rfl) ⟨Nat.le_of_ble_eq_true rfl, Nat.le_of_ble_eq_true rfl⟩ ?_
              show _ → kW G X m_H_move C p14.2 0 0 93 [.ref 0, .int x1, .int x2, .int x3, .int x4, .int x5] [.int p14.1]
              intro h; have h := Option.some.inj h; subst h
              exact kx_iret hX hE ok_H_move (nx := 94) rfl rfl ⟨Nat.le_of_ble_eq_true rfl, Nat.le_of_ble_eq_true rfl⟩
            · refine kx_go 4 (pc' := 82) (lv' := [.ref 0, .int x1, .int x2, .int x3, .int x4, .int x5]) (st' := [.int x5, .int x4, .int x3, .ref 0]) hX ok_H_move rfl ?_
              refine kx_bind (fun p15 hp15 => ?_)
              refine kx_V (r := 0) (as := [.int x3, .int x4, .int x5]) (by decide) hX ok_H_move (nx := 85) rfl l_H_266 (by decide) rfl (fun _ => s_H_stand (G := G) (d := 0) (Nat.le_refl _) C I x3 x4 x5 p15 hp15) (by omega) rfl (rest := []) rfl (Nat.le_of_ble_eq_true rfl) ⟨Nat.le_of_ble_eq_true rfl, Nat.le_of_ble_eq_true rfl⟩ ?_
              show _ → kW G X m_H_move C I 0 0 85 [.ref 0, .int x1, .int x2, .int x3, .int x4, .int x5] [.int p15]
              refine kx_go 1 (pc' := if p15 = (0 : Int32) then 88 else 94) (lv' := [.ref 0, .int x1, .int x2, .int x3, .int x4, .int x5]) (st' := []) hX ok_H_move rfl ?_
              refine kx_ite (fun c16 => ?_) (fun c16 => ?_)
              · refine kx_go 2 (pc' := 90) (lv' := [.ref 0, .int x1, .int x2, .int x3, .int x4, .int x5]) (st' := [.int (1 : Int32), .ref 0]) hX ok_H_move rfl ?_
                refine kx_bind (fun p17 hp17 => ?_)
                refine kx_V (r := 0) (as := [.int (1 : Int32)]) (by decide) hX ok_H_move (nx := 93) rfl l_H_60 (by decide) rfl (fun _ => s_H_error (G := G) (d := 0) (Nat.le_refl _) C I (1 : Int32) p17 hp17) (by omega) rfl (rest := []) rfl (Nat.le_of_ble_eq_true rfl) ⟨Nat.le_of_ble_eq_true rfl, Nat.le_of_ble_eq_true rfl⟩ ?_
                show _ → kW G X m_H_move C p17.2 0 0 93 [.ref 0, .int x1, .int x2, .int x3, .int x4, .int x5] [.int p17.1]
                intro h; have h := Option.some.inj h; subst h
                exact kx_iret hX hE ok_H_move (nx := 94) rfl rfl ⟨Nat.le_of_ble_eq_true rfl, Nat.le_of_ble_eq_true rfl⟩
              · refine kx_go 1 (pc' := 95) (lv' := [.ref 0, .int x1, .int x2, .int x3, .int x4, .int x5]) (st' := [.ref 0]) hX ok_H_move rfl ?_
                refine kx_getp hX ok_H_move rfl (q := 79) (nx := 98) rfl ?_
                refine kx_go 1 (pc' := 99) (lv' := [.ref 0, .int x1, .int x2, .int x3, .int x4, .int x5]) (st' := [.int x1, .ref 79]) hX ok_H_move rfl ?_
                refine kx_aaGk b5 hX ok_H_move (nx := 100) rfl ?_
                refine kx_go 2 (pc' := 102) (lv' := [.ref 0, .int x1, .int x2, .int x3, .int x4, .int x5]) (st' := [.ref 0, .int x2, .ref (80 + x1.toNatClampNeg)]) hX ok_H_move rfl ?_
                refine kx_getp hX ok_H_move rfl (q := 79) (nx := 105) rfl ?_
                refine kx_go 1 (pc' := 106) (lv' := [.ref 0, .int x1, .int x2, .int x3, .int x4, .int x5]) (st' := [.int x3, .ref 79, .int x2, .ref (80 + x1.toNatClampNeg)]) hX ok_H_move rfl ?_
                refine kx_aaGk b8 hX ok_H_move (nx := 107) rfl ?_
                refine kx_go 2 (pc' := 111) (lv' := [.ref 0, .int x1, .int x2, .int x3, .int x4, .int x5]) (st' := [.int x5, .int x4, .ref (80 + x3.toNatClampNeg), .int x2, .ref (80 + x1.toNatClampNeg)]) hX ok_H_move rfl ?_
                refine kx_copy (d := d) (sh_kA (bnd_lt b5)) (sh_kA (bnd_lt b8)) (by omega) hX ok_H_move l_H_269 (nx := 114) rfl (Nat.le_of_ble_eq_true rfl) ?_
                refine kx_lt (Q := fun J18 => kW G X m_H_move C J18 0 0 114 [.ref 0, .int x1, .int x2, .int x3, .int x4, .int x5] []) (fun J18 eJ18 => ?_)
                refine kx_go 1 (pc' := 116) (lv' := [.ref 0, .int x1, .int x2, .int x3, .int x4, .int x5]) (st' := [.int x5]) hX ok_H_move rfl ?_
                intro h; have h := Option.some.inj h; subst h
                exact kx_iret hX hE ok_H_move (nx := 117) rfl rfl ⟨Nat.le_of_ble_eq_true rfl, Nat.le_of_ble_eq_true rfl⟩
          · refine kx_go 2 (pc' := 61) (lv' := [.ref 0, .int x1, .int x2, .int x3, .int x4, .int x5]) (st' := [.int (5 : Int32), .ref 0]) hX ok_H_move rfl ?_
            refine kx_bind (fun p19 hp19 => ?_)
            refine kx_V (r := 0) (as := [.int (5 : Int32)]) (by decide) hX ok_H_move (nx := 64) rfl l_H_60 (by decide) rfl (fun _ => s_H_error (G := G) (d := 0) (Nat.le_refl _) C I (5 : Int32) p19 hp19) (by omega) rfl (rest := []) rfl (Nat.le_of_ble_eq_true rfl) ⟨Nat.le_of_ble_eq_true rfl, Nat.le_of_ble_eq_true rfl⟩ ?_
            show _ → kW G X m_H_move C p19.2 0 0 64 [.ref 0, .int x1, .int x2, .int x3, .int x4, .int x5] [.int p19.1]
            intro h; have h := Option.some.inj h; subst h
            exact kx_iret hX hE ok_H_move (nx := 65) rfl rfl ⟨Nat.le_of_ble_eq_true rfl, Nat.le_of_ble_eq_true rfl⟩
def L_H_looks_40 (x1 : Int32) (g2 : Nat) : Nat → Int32 → Int32 → HI → Option (Nat × Int32 × HI)
  | 0, _, _, _ => none
  | f + 1, x3, x4, I => grd (bnd x1 4) (if (I 85 x1.toNatClampNeg) ≤ (x4 + (2 : Int32)) then (some (1, x3, I)) else (if (12 : Int32) ≤ (I 1 5) then (some (1, x3, I)) else (grd (bnd x4 40) (grd (bnd (x4 + (1 : Int32)) 40) (grd (bnd (x4 + (2 : Int32)) 40) (if (M_Wall_isLook I (I g2 x4.toNatClampNeg) (I g2 (x4 + (1 : Int32)).toNatClampNeg) (I g2 (x4 + (2 : Int32)).toNatClampNeg)) = (0 : Int32) then (some (0, x3, I)) else (Option.bind (M_Wall_addLook I (I g2 x4.toNatClampNeg) (I g2 (x4 + (1 : Int32)).toNatClampNeg) (I g2 (x4 + (2 : Int32)).toNatClampNeg)) fun p8 => L_H_looks_40 x1 g2 f (x3 + (1 : Int32)) (x4 + (3 : Int32)) p8.2)))))))
theorem s_L_H_looks_40 {G : xG} {X : xC} {d : Nat} (hd : 3 ≤ d) (hX : xAmb G X m_H_looks d 0 0)  (C : HC) (x1 : Int32) (g2 : Nat) (hg2 : kA C g2 40) : ∀ (f : Nat) (x3 : Int32) (x4 : Int32) (I : HI) (r : Nat × Int32 × HI), (r.1 = 0 → kW G X m_H_looks C r.2.2 0 0 91 [.null, .null, .null, .int r.2.1, .null] []) → (¬ r.1 = 0 → kW G X m_H_looks C r.2.2 0 0 127 [.null, .null, .null, .int r.2.1, .null] []) → L_H_looks_40 x1 g2 f x3 x4 I = some r → kW G X m_H_looks C I 0 0 40 [.ref 0, .int x1, .ref g2, .int x3, .int x4] [] := by
  intro f
  induction f with
  | zero => intro x3 x4 I r hk0 hk1 h; rw [L_H_looks_40] at h; cases h
  | succ f ih =>
    intro x3 x4 I r hk0 hk1
    rw [L_H_looks_40]
    refine kx_go 4 (pc' := 45) (lv' := [.ref 0, .int x1, .ref g2, .int x3, .int x4]) (st' := [.ref 0, .int (x4 + (2 : Int32))]) hX ok_H_looks rfl ?_
    refine kx_getp hX ok_H_looks rfl (q := 85) (nx := 48) rfl ?_
    refine kx_go 1 (pc' := 49) (lv' := [.ref 0, .int x1, .ref g2, .int x3, .int x4]) (st' := [.int x1, .ref 85, .int (x4 + (2 : Int32))]) hX ok_H_looks rfl ?_
    refine kx_iald hX ok_H_looks (w := 4) (nx := 50) rfl (fun b1 => ?_)
    refine kx_go 1 (pc' := if (I 85 x1.toNatClampNeg) ≤ (x4 + (2 : Int32)) then 127 else 53) (lv' := [.ref 0, .int x1, .ref g2, .int x3, .int x4]) (st' := []) hX ok_H_looks rfl ?_
    refine kx_ite (fun c2 => ?_) (fun c2 => ?_)
    · refine kx_weak (lv' := [.null, .null, .null, .int x3, .null]) (by simp [xsub]) ?_
      intro h; have h := Option.some.inj h; subst h
      exact hk1 (show ¬ (1 : Nat) = 0 by decide)
    · refine kx_go 1 (pc' := 54) (lv' := [.ref 0, .int x1, .ref g2, .int x3, .int x4]) (st' := [.ref 0]) hX ok_H_looks rfl ?_
      refine kx_getp hX ok_H_looks rfl (q := 1) (nx := 57) rfl ?_
      refine kx_geti hX ok_H_looks rfl (k := 5) (nx := 60) rfl ?_
      refine kx_go 2 (pc' := if (12 : Int32) ≤ (I 1 5) then 127 else 65) (lv' := [.ref 0, .int x1, .ref g2, .int x3, .int x4]) (st' := []) hX ok_H_looks rfl ?_
      refine kx_ite (fun c3 => ?_) (fun c3 => ?_)
      · refine kx_weak (lv' := [.null, .null, .null, .int x3, .null]) (by simp [xsub]) ?_
        intro h; have h := Option.some.inj h; subst h
        exact hk1 (show ¬ (1 : Nat) = 0 by decide)
      · refine kx_go 1 (pc' := 66) (lv' := [.ref 0, .int x1, .ref g2, .int x3, .int x4]) (st' := [.ref 0]) hX ok_H_looks rfl ?_
        refine kx_getp hX ok_H_looks rfl (q := 1) (nx := 69) rfl ?_
        refine kx_go 2 (pc' := 72) (lv' := [.ref 0, .int x1, .ref g2, .int x3, .int x4]) (st' := [.int x4, .ref g2, .ref 1]) hX ok_H_looks rfl ?_
        refine kx_qald hg2 hX ok_H_looks (nx := 73) rfl (fun b4 => ?_)
        refine kx_go 4 (pc' := 78) (lv' := [.ref 0, .int x1, .ref g2, .int x3, .int x4]) (st' := [.int (x4 + (1 : Int32)), .ref g2, .int (I g2 x4.toNatClampNeg), .ref 1]) hX ok_H_looks rfl ?_
        refine kx_qald hg2 hX ok_H_looks (nx := 79) rfl (fun b5 => ?_)
        refine kx_go 4 (pc' := 84) (lv' := [.ref 0, .int x1, .ref g2, .int x3, .int x4]) (st' := [.int (x4 + (2 : Int32)), .ref g2, .int (I g2 (x4 + (1 : Int32)).toNatClampNeg), .int (I g2 x4.toNatClampNeg), .ref 1]) hX ok_H_looks rfl ?_
        refine kx_qald hg2 hX ok_H_looks (nx := 85) rfl (fun b6 => ?_)
        refine kx_V (r := 1) (as := [.int (I g2 x4.toNatClampNeg), .int (I g2 (x4 + (1 : Int32)).toNatClampNeg), .int (I g2 (x4 + (2 : Int32)).toNatClampNeg)]) (by decide) hX ok_H_looks (nx := 88) rfl l_H_113 (by decide) rfl (fun _ => s_Wall_isLook (G := G) (d := 2) (Nat.le_refl _) C I (I g2 x4.toNatClampNeg) (I g2 (x4 + (1 : Int32)).toNatClampNeg) (I g2 (x4 + (2 : Int32)).toNatClampNeg) _ rfl) (by omega) rfl (rest := []) rfl (Nat.le_of_ble_eq_true rfl) ⟨Nat.le_of_ble_eq_true rfl, Nat.le_of_ble_eq_true rfl⟩ ?_
        show _ → kW G X m_H_looks C I 0 0 88 [.ref 0, .int x1, .ref g2, .int x3, .int x4] [.int (M_Wall_isLook I (I g2 x4.toNatClampNeg) (I g2 (x4 + (1 : Int32)).toNatClampNeg) (I g2 (x4 + (2 : Int32)).toNatClampNeg))]
        refine kx_go 1 (pc' := if (M_Wall_isLook I (I g2 x4.toNatClampNeg) (I g2 (x4 + (1 : Int32)).toNatClampNeg) (I g2 (x4 + (2 : Int32)).toNatClampNeg)) = (0 : Int32) then 91 else 94) (lv' := [.ref 0, .int x1, .ref g2, .int x3, .int x4]) (st' := []) hX ok_H_looks rfl ?_
        refine kx_ite (fun c7 => ?_) (fun c7 => ?_)
        · refine kx_weak (lv' := [.null, .null, .null, .int x3, .null]) (by simp [xsub]) ?_
          intro h; have h := Option.some.inj h; subst h
          exact hk0 rfl
        · refine kx_go 1 (pc' := 95) (lv' := [.ref 0, .int x1, .ref g2, .int x3, .int x4]) (st' := [.ref 0]) hX ok_H_looks rfl ?_
          refine kx_getp hX ok_H_looks rfl (q := 1) (nx := 98) rfl ?_
          refine kx_go 2 (pc' := 101) (lv' := [.ref 0, .int x1, .ref g2, .int x3, .int x4]) (st' := [.int x4, .ref g2, .ref 1]) hX ok_H_looks rfl ?_
          refine kx_qaldc hg2 hX ok_H_looks (nx := 102) rfl b4 (k := x4.toNatClampNeg) rfl ?_
          refine kx_go 4 (pc' := 107) (lv' := [.ref 0, .int x1, .ref g2, .int x3, .int x4]) (st' := [.int (x4 + (1 : Int32)), .ref g2, .int (I g2 x4.toNatClampNeg), .ref 1]) hX ok_H_looks rfl ?_
          refine kx_qaldc hg2 hX ok_H_looks (nx := 108) rfl b5 (k := (x4 + (1 : Int32)).toNatClampNeg) rfl ?_
          refine kx_go 4 (pc' := 113) (lv' := [.ref 0, .int x1, .ref g2, .int x3, .int x4]) (st' := [.int (x4 + (2 : Int32)), .ref g2, .int (I g2 (x4 + (1 : Int32)).toNatClampNeg), .int (I g2 x4.toNatClampNeg), .ref 1]) hX ok_H_looks rfl ?_
          refine kx_qaldc hg2 hX ok_H_looks (nx := 114) rfl b6 (k := (x4 + (2 : Int32)).toNatClampNeg) rfl ?_
          refine kx_bind (fun p8 hp8 => ?_)
          refine kx_V (r := 1) (as := [.int (I g2 x4.toNatClampNeg), .int (I g2 (x4 + (1 : Int32)).toNatClampNeg), .int (I g2 (x4 + (2 : Int32)).toNatClampNeg)]) (by decide) hX ok_H_looks (nx := 117) rfl l_H_120 (by decide) rfl (fun _ => s_Wall_addLook (G := G) (d := 0) (Nat.le_refl _) C I (I g2 x4.toNatClampNeg) (I g2 (x4 + (1 : Int32)).toNatClampNeg) (I g2 (x4 + (2 : Int32)).toNatClampNeg) p8 hp8) (by omega) rfl (rest := []) rfl (Nat.le_of_ble_eq_true rfl) ⟨Nat.le_of_ble_eq_true rfl, Nat.le_of_ble_eq_true rfl⟩ ?_
          show _ → kW G X m_H_looks C p8.2 0 0 117 [.ref 0, .int x1, .ref g2, .int x3, .int x4] [.int p8.1]
          refine kx_go 4 (pc' := 40) (lv' := [.ref 0, .int x1, .ref g2, .int (x3 + (1 : Int32)), .int (x4 + (3 : Int32))]) (st' := []) hX ok_H_looks rfl ?_
          exact fun h => ih (x3 + (1 : Int32)) (x4 + (3 : Int32)) p8.2 r hk0 hk1 h
def M_H_looks (I : HI) (x1 : Int32) : Option (Int32 × HI) := if (M_H_isSheet x1) = (0 : Int32) then (Option.bind (M_H_error I (1 : Int32)) fun p2 => some (p2.1, p2.2)) else (grd (bnd x1 4) (if (I 84 x1.toNatClampNeg) = (0 : Int32) then (Option.bind (M_H_error I (2 : Int32)) fun p5 => some (p5.1, p5.2)) else (Option.bind (L_H_looks_40 x1 (80 + x1.toNatClampNeg) 1000 (0 : Int32) (0 : Int32) I) fun p6 => if p6.1 = 0 then (some (p6.2.1, p6.2.2)) else (some (p6.2.1, p6.2.2)))))
theorem s_H_looks {G : xG} {d : Nat} (hd : 3 ≤ d) (C : HC) (I : HI) (x1 : Int32)  (r : Int32 × HI) : M_H_looks I x1 = some r → kM G d m_H_looks [.ref 0, .int x1] C I 0 0 (some (.int r.1)) C r.2 := by
  unfold M_H_looks
  refine kM.of (by decide +kernel) (Nat.le_of_ble_eq_true rfl) (lv := [.ref 0, .int x1, .null, .null, .null]) rfl (fun X hX hE => ?_)
  refine kx_go 1 (pc' := 1) (lv' := [.ref 0, .int x1, .null, .null, .null]) (st' := [.int x1]) hX ok_H_looks rfl ?_
  refine kx_S (as := [.int x1]) hX ok_H_looks (nx := 4) rfl l_H_260 (fun _ => s_H_isSheet (G := G) (d := 1) (Nat.le_refl _) C I x1 _ rfl) (by omega) rfl (rest := []) rfl (Nat.le_of_ble_eq_true rfl) ⟨Nat.le_of_ble_eq_true rfl, Nat.le_of_ble_eq_true rfl⟩ ?_
  show _ → kW G X m_H_looks C I 0 0 4 [.ref 0, .int x1, .null, .null, .null] [.int (M_H_isSheet x1)]
  refine kx_go 1 (pc' := if (M_H_isSheet x1) = (0 : Int32) then 7 else 13) (lv' := [.ref 0, .int x1, .null, .null, .null]) (st' := []) hX ok_H_looks rfl ?_
  refine kx_ite (fun c1 => ?_) (fun c1 => ?_)
  · refine kx_go 2 (pc' := 9) (lv' := [.ref 0, .int x1, .null, .null, .null]) (st' := [.int (1 : Int32), .ref 0]) hX ok_H_looks rfl ?_
    refine kx_bind (fun p2 hp2 => ?_)
    refine kx_V (r := 0) (as := [.int (1 : Int32)]) (by decide) hX ok_H_looks (nx := 12) rfl l_H_60 (by decide) rfl (fun _ => s_H_error (G := G) (d := 0) (Nat.le_refl _) C I (1 : Int32) p2 hp2) (by omega) rfl (rest := []) rfl (Nat.le_of_ble_eq_true rfl) ⟨Nat.le_of_ble_eq_true rfl, Nat.le_of_ble_eq_true rfl⟩ ?_
    show _ → kW G X m_H_looks C p2.2 0 0 12 [.ref 0, .int x1, .null, .null, .null] [.int p2.1]
    intro h; have h := Option.some.inj h; subst h
    exact kx_iret hX hE ok_H_looks (nx := 13) rfl rfl ⟨Nat.le_of_ble_eq_true rfl, Nat.le_of_ble_eq_true rfl⟩
  · refine kx_go 1 (pc' := 14) (lv' := [.ref 0, .int x1, .null, .null, .null]) (st' := [.ref 0]) hX ok_H_looks rfl ?_
    refine kx_getp hX ok_H_looks rfl (q := 84) (nx := 17) rfl ?_
    refine kx_go 1 (pc' := 18) (lv' := [.ref 0, .int x1, .null, .null, .null]) (st' := [.int x1, .ref 84]) hX ok_H_looks rfl ?_
    refine kx_iald hX ok_H_looks (w := 4) (nx := 19) rfl (fun b3 => ?_)
    refine kx_go 1 (pc' := if (I 84 x1.toNatClampNeg) = (0 : Int32) then 22 else 28) (lv' := [.ref 0, .int x1, .null, .null, .null]) (st' := []) hX ok_H_looks rfl ?_
    refine kx_ite (fun c4 => ?_) (fun c4 => ?_)
    · refine kx_go 2 (pc' := 24) (lv' := [.ref 0, .int x1, .null, .null, .null]) (st' := [.int (2 : Int32), .ref 0]) hX ok_H_looks rfl ?_
      refine kx_bind (fun p5 hp5 => ?_)
      refine kx_V (r := 0) (as := [.int (2 : Int32)]) (by decide) hX ok_H_looks (nx := 27) rfl l_H_60 (by decide) rfl (fun _ => s_H_error (G := G) (d := 0) (Nat.le_refl _) C I (2 : Int32) p5 hp5) (by omega) rfl (rest := []) rfl (Nat.le_of_ble_eq_true rfl) ⟨Nat.le_of_ble_eq_true rfl, Nat.le_of_ble_eq_true rfl⟩ ?_
      show _ → kW G X m_H_looks C p5.2 0 0 27 [.ref 0, .int x1, .null, .null, .null] [.int p5.1]
      intro h; have h := Option.some.inj h; subst h
      exact kx_iret hX hE ok_H_looks (nx := 28) rfl rfl ⟨Nat.le_of_ble_eq_true rfl, Nat.le_of_ble_eq_true rfl⟩
    · refine kx_go 1 (pc' := 29) (lv' := [.ref 0, .int x1, .null, .null, .null]) (st' := [.ref 0]) hX ok_H_looks rfl ?_
      refine kx_getp hX ok_H_looks rfl (q := 79) (nx := 32) rfl ?_
      refine kx_go 1 (pc' := 33) (lv' := [.ref 0, .int x1, .null, .null, .null]) (st' := [.int x1, .ref 79]) hX ok_H_looks rfl ?_
      refine kx_aaGk b3 hX ok_H_looks (nx := 34) rfl ?_
      refine kx_go 5 (pc' := 40) (lv' := [.ref 0, .int x1, .ref (80 + x1.toNatClampNeg), .int (0 : Int32), .int (0 : Int32)]) (st' := []) hX ok_H_looks rfl ?_
      refine kx_bind (fun p6 hp6 => ?_)
      refine kx_via2 (fun hk0 hk1 => s_L_H_looks_40 (G := G) (X := X) (by omega) hX C x1 (80 + x1.toNatClampNeg) (sh_kA (bnd_lt b3)) 1000 (0 : Int32) (0 : Int32) I p6 hk0 hk1 hp6) (fun _ => ?_) (fun _ => ?_)
      · refine kx_go 2 (pc' := 128) (lv' := [.null, .null, .null, .int p6.2.1, .null]) (st' := [.int p6.2.1]) hX ok_H_looks rfl ?_
        intro h; have h := Option.some.inj h; subst h
        exact kx_iret hX hE ok_H_looks (nx := 129) rfl rfl ⟨Nat.le_of_ble_eq_true rfl, Nat.le_of_ble_eq_true rfl⟩
      · refine kx_go 1 (pc' := 128) (lv' := [.null, .null, .null, .int p6.2.1, .null]) (st' := [.int p6.2.1]) hX ok_H_looks rfl ?_
        intro h; have h := Option.some.inj h; subst h
        exact kx_iret hX hE ok_H_looks (nx := 129) rfl rfl ⟨Nat.le_of_ble_eq_true rfl, Nat.le_of_ble_eq_true rfl⟩
def L_Wall_holdsUpTo_2 (x1 : Int32) (g2 : Nat) (I : HI) : Nat → Int32 → Option (Nat)
  | 0, _ => none
  | f + 1, x3 => if (I 1 5) ≤ x3 then (some 1) else (grd (bnd x3 12) (if (mmax (I 11 x3.toNatClampNeg) (I 12 x3.toNatClampNeg)) = x1 then (grd (bnd (I 11 x3.toNatClampNeg) 40) (grd (bnd (I 12 x3.toNatClampNeg) 40) (if (I g2 (I 12 x3.toNatClampNeg).toNatClampNeg) < (I g2 (I 11 x3.toNatClampNeg).toNatClampNeg) then (L_Wall_holdsUpTo_2 x1 g2 I f (x3 + (1 : Int32))) else (some 0)))) else (L_Wall_holdsUpTo_2 x1 g2 I f (x3 + (1 : Int32)))))
theorem s_L_Wall_holdsUpTo_2 {G : xG} {X : xC} {d : Nat} (hd : 1 ≤ d) (hX : xAmb G X m_Wall_holdsUpTo d 0 0)  (C : HC) (x1 : Int32) (g2 : Nat) (hg2 : kA C g2 40) (I : HI) : ∀ (f : Nat) (x3 : Int32) (r : Nat), (r = 0 → kW G X m_Wall_holdsUpTo C I 0 0 48 [.null, .null, .null, .null] []) → (¬ r = 0 → kW G X m_Wall_holdsUpTo C I 0 0 56 [.null, .null, .null, .null] []) → L_Wall_holdsUpTo_2 x1 g2 I f x3 = some r → kW G X m_Wall_holdsUpTo C I 0 0 2 [.ref 1, .int x1, .ref g2, .int x3] [] := by
  intro f
  induction f with
  | zero => intro x3 r hk0 hk1 h; rw [L_Wall_holdsUpTo_2] at h; cases h
  | succ f ih =>
    intro x3 r hk0 hk1
    rw [L_Wall_holdsUpTo_2]
    refine kx_go 2 (pc' := 4) (lv' := [.ref 1, .int x1, .ref g2, .int x3]) (st' := [.ref 1, .int x3]) hX ok_Wall_holdsUpTo rfl ?_
    refine kx_geti hX ok_Wall_holdsUpTo rfl (k := 5) (nx := 7) rfl ?_
    refine kx_go 1 (pc' := if (I 1 5) ≤ x3 then 56 else 10) (lv' := [.ref 1, .int x1, .ref g2, .int x3]) (st' := []) hX ok_Wall_holdsUpTo rfl ?_
    refine kx_ite (fun c1 => ?_) (fun c1 => ?_)
    · refine kx_weak (lv' := [.null, .null, .null, .null]) (by simp [xsub]) ?_
      intro h; have h := Option.some.inj h; subst h
      exact hk1 (show ¬ (1 : Nat) = 0 by decide)
    · refine kx_go 1 (pc' := 11) (lv' := [.ref 1, .int x1, .ref g2, .int x3]) (st' := [.ref 1]) hX ok_Wall_holdsUpTo rfl ?_
      refine kx_getp hX ok_Wall_holdsUpTo rfl (q := 11) (nx := 14) rfl ?_
      refine kx_go 1 (pc' := 15) (lv' := [.ref 1, .int x1, .ref g2, .int x3]) (st' := [.int x3, .ref 11]) hX ok_Wall_holdsUpTo rfl ?_
      refine kx_iald hX ok_Wall_holdsUpTo (w := 12) (nx := 16) rfl (fun b2 => ?_)
      refine kx_go 1 (pc' := 17) (lv' := [.ref 1, .int x1, .ref g2, .int x3]) (st' := [.ref 1, .int (I 11 x3.toNatClampNeg)]) hX ok_Wall_holdsUpTo rfl ?_
      refine kx_getp hX ok_Wall_holdsUpTo rfl (q := 12) (nx := 20) rfl ?_
      refine kx_go 1 (pc' := 21) (lv' := [.ref 1, .int x1, .ref g2, .int x3]) (st' := [.int x3, .ref 12, .int (I 11 x3.toNatClampNeg)]) hX ok_Wall_holdsUpTo rfl ?_
      refine kx_ialdc hX ok_Wall_holdsUpTo (w := 12) (nx := 22) rfl b2 (k := x3.toNatClampNeg) rfl ?_
      refine kx_max (d := d) (by omega) ⟨Nat.le_of_ble_eq_true rfl, Nat.le_of_ble_eq_true rfl⟩ hX ok_Wall_holdsUpTo (nx := 25) rfl l_Wall_88 (Nat.le_of_ble_eq_true rfl) ?_
      refine kx_go 2 (pc' := if (mmax (I 11 x3.toNatClampNeg) (I 12 x3.toNatClampNeg)) = x1 then 29 else 50) (lv' := [.ref 1, .int x1, .ref g2, .int x3]) (st' := []) hX ok_Wall_holdsUpTo rfl ?_
      refine kx_ite (fun c3 => ?_) (fun c3 => ?_)
      · refine kx_go 2 (pc' := 31) (lv' := [.ref 1, .int x1, .ref g2, .int x3]) (st' := [.ref 1, .ref g2]) hX ok_Wall_holdsUpTo rfl ?_
        refine kx_getp hX ok_Wall_holdsUpTo rfl (q := 11) (nx := 34) rfl ?_
        refine kx_go 1 (pc' := 35) (lv' := [.ref 1, .int x1, .ref g2, .int x3]) (st' := [.int x3, .ref 11, .ref g2]) hX ok_Wall_holdsUpTo rfl ?_
        refine kx_ialdc hX ok_Wall_holdsUpTo (w := 12) (nx := 36) rfl b2 (k := x3.toNatClampNeg) rfl ?_
        refine kx_qald hg2 hX ok_Wall_holdsUpTo (nx := 37) rfl (fun b4 => ?_)
        refine kx_go 2 (pc' := 39) (lv' := [.ref 1, .int x1, .ref g2, .int x3]) (st' := [.ref 1, .ref g2, .int (I g2 (I 11 x3.toNatClampNeg).toNatClampNeg)]) hX ok_Wall_holdsUpTo rfl ?_
        refine kx_getp hX ok_Wall_holdsUpTo rfl (q := 12) (nx := 42) rfl ?_
        refine kx_go 1 (pc' := 43) (lv' := [.ref 1, .int x1, .ref g2, .int x3]) (st' := [.int x3, .ref 12, .ref g2, .int (I g2 (I 11 x3.toNatClampNeg).toNatClampNeg)]) hX ok_Wall_holdsUpTo rfl ?_
        refine kx_ialdc hX ok_Wall_holdsUpTo (w := 12) (nx := 44) rfl b2 (k := x3.toNatClampNeg) rfl ?_
        refine kx_qald hg2 hX ok_Wall_holdsUpTo (nx := 45) rfl (fun b5 => ?_)
        refine kx_go 1 (pc' := if (I g2 (I 12 x3.toNatClampNeg).toNatClampNeg) < (I g2 (I 11 x3.toNatClampNeg).toNatClampNeg) then 50 else 48) (lv' := [.ref 1, .int x1, .ref g2, .int x3]) (st' := []) hX ok_Wall_holdsUpTo rfl ?_
        refine kx_ite (fun c6 => ?_) (fun c6 => ?_)
        · refine kx_go 2 (pc' := 2) (lv' := [.ref 1, .int x1, .ref g2, .int (x3 + (1 : Int32))]) (st' := []) hX ok_Wall_holdsUpTo rfl ?_
          exact fun h => ih (x3 + (1 : Int32)) r hk0 hk1 h
        · refine kx_weak (lv' := [.null, .null, .null, .null]) (by simp [xsub]) ?_
          intro h; have h := Option.some.inj h; subst h
          exact hk0 rfl
      · refine kx_go 2 (pc' := 2) (lv' := [.ref 1, .int x1, .ref g2, .int (x3 + (1 : Int32))]) (st' := []) hX ok_Wall_holdsUpTo rfl ?_
        exact fun h => ih (x3 + (1 : Int32)) r hk0 hk1 h
def M_Wall_holdsUpTo (I : HI) (x1 : Int32) (g2 : Nat) : Option (Int32) := Option.bind (L_Wall_holdsUpTo_2 x1 g2 I 1000 (0 : Int32)) fun p1 => if p1 = 0 then (some (0 : Int32)) else (some (1 : Int32))
theorem s_Wall_holdsUpTo {G : xG} {d : Nat} (hd : 1 ≤ d) (C : HC) (I : HI) (x1 : Int32) (g2 : Nat) (hg2 : kA C g2 40) (r : Int32) : M_Wall_holdsUpTo I x1 g2 = some r → kM G d m_Wall_holdsUpTo [.ref 1, .int x1, .ref g2] C I 0 0 (some (.int r)) C I := by
  unfold M_Wall_holdsUpTo
  refine kM.of (by decide +kernel) (Nat.le_of_ble_eq_true rfl) (lv := [.ref 1, .int x1, .ref g2, .null]) rfl (fun X hX hE => ?_)
  refine kx_go 2 (pc' := 2) (lv' := [.ref 1, .int x1, .ref g2, .int (0 : Int32)]) (st' := []) hX ok_Wall_holdsUpTo rfl ?_
  refine kx_bind (fun p1 hp1 => ?_)
  refine kx_via2 (fun hk0 hk1 => s_L_Wall_holdsUpTo_2 (G := G) (X := X) (by omega) hX C x1 g2 hg2 I 1000 (0 : Int32) p1 hk0 hk1 hp1) (fun _ => ?_) (fun _ => ?_)
  · refine kx_go 1 (pc' := 49) (lv' := [.null, .null, .null, .null]) (st' := [.int (0 : Int32)]) hX ok_Wall_holdsUpTo rfl ?_
    intro h; have h := Option.some.inj h; subst h
    exact kx_zret hX hE ok_Wall_holdsUpTo (nx := 50) rfl rfl (Or.inl rfl) ⟨Nat.le_of_ble_eq_true rfl, Nat.le_of_ble_eq_true rfl⟩
  · refine kx_go 1 (pc' := 57) (lv' := [.null, .null, .null, .null]) (st' := [.int (1 : Int32)]) hX ok_Wall_holdsUpTo rfl ?_
    intro h; have h := Option.some.inj h; subst h
    exact kx_zret hX hE ok_Wall_holdsUpTo (nx := 58) rfl rfl (Or.inr rfl) ⟨Nat.le_of_ble_eq_true rfl, Nat.le_of_ble_eq_true rfl⟩
def L_H_judge_37 (C : HC) (x1 : Int32) (g2 : Nat) : Nat → Int32 → HI → Option (Nat × Int32 × HI)
  | 0, _, _ => none
  | f + 1, x3, I => if (I 1 1) ≤ x3 then (some (1, x3, I)) else (grd (bnd x1 4) (if (I 85 x1.toNatClampNeg) ≤ x3 then (some (0, x3, I)) else (grd (bnd x3 40) (Option.bind (M_Wall_earlyOf C I x3) fun p5 => if (I g2 x3.toNatClampNeg) < p5.1 then (some (0, x3, p5.2)) else (Option.bind (M_Wall_lateOf C p5.2 x3) fun p7 => if p7.1 < (p5.2 g2 x3.toNatClampNeg) then (some (0, x3, p7.2)) else (Option.bind (M_Wall_holdsUpTo p7.2 x3 g2) fun p9 => if p9 = (0 : Int32) then (some (0, x3, p7.2)) else (L_H_judge_37 C x1 g2 f (x3 + (1 : Int32)) p7.2)))))))
theorem s_L_H_judge_37 {G : xG} {X : xC} {d : Nat} (hd : 5 ≤ d) (hX : xAmb G X m_H_judge d 0 0)  (C : HC) (x1 : Int32) (g2 : Nat) (hg2 : kA C g2 40) : ∀ (f : Nat) (x3 : Int32) (I : HI) (r : Nat × Int32 × HI), (r.1 = 0 → kW G X m_H_judge C r.2.2 0 0 98 [.null, .null, .null, .int r.2.1] []) → (¬ r.1 = 0 → kW G X m_H_judge C r.2.2 0 0 106 [.ref 0, .null, .null, .null] []) → L_H_judge_37 C x1 g2 f x3 I = some r → kW G X m_H_judge C I 0 0 37 [.ref 0, .int x1, .ref g2, .int x3] [] := by
  intro f
  induction f with
  | zero => intro x3 I r hk0 hk1 h; rw [L_H_judge_37] at h; cases h
  | succ f ih =>
    intro x3 I r hk0 hk1
    rw [L_H_judge_37]
    refine kx_go 2 (pc' := 39) (lv' := [.ref 0, .int x1, .ref g2, .int x3]) (st' := [.ref 0, .int x3]) hX ok_H_judge rfl ?_
    refine kx_getp hX ok_H_judge rfl (q := 1) (nx := 42) rfl ?_
    refine kx_geti hX ok_H_judge rfl (k := 1) (nx := 45) rfl ?_
    refine kx_go 1 (pc' := if (I 1 1) ≤ x3 then 106 else 48) (lv' := [.ref 0, .int x1, .ref g2, .int x3]) (st' := []) hX ok_H_judge rfl ?_
    refine kx_ite (fun c1 => ?_) (fun c1 => ?_)
    · refine kx_weak (lv' := [.ref 0, .null, .null, .null]) (by simp [xsub]) ?_
      intro h; have h := Option.some.inj h; subst h
      exact hk1 (show ¬ (1 : Nat) = 0 by decide)
    · refine kx_go 2 (pc' := 50) (lv' := [.ref 0, .int x1, .ref g2, .int x3]) (st' := [.ref 0, .int x3]) hX ok_H_judge rfl ?_
      refine kx_getp hX ok_H_judge rfl (q := 85) (nx := 53) rfl ?_
      refine kx_go 1 (pc' := 54) (lv' := [.ref 0, .int x1, .ref g2, .int x3]) (st' := [.int x1, .ref 85, .int x3]) hX ok_H_judge rfl ?_
      refine kx_iald hX ok_H_judge (w := 4) (nx := 55) rfl (fun b2 => ?_)
      refine kx_go 1 (pc' := if (I 85 x1.toNatClampNeg) ≤ x3 then 98 else 58) (lv' := [.ref 0, .int x1, .ref g2, .int x3]) (st' := []) hX ok_H_judge rfl ?_
      refine kx_ite (fun c3 => ?_) (fun c3 => ?_)
      · refine kx_weak (lv' := [.null, .null, .null, .int x3]) (by simp [xsub]) ?_
        intro h; have h := Option.some.inj h; subst h
        exact hk0 rfl
      · refine kx_go 2 (pc' := 60) (lv' := [.ref 0, .int x1, .ref g2, .int x3]) (st' := [.int x3, .ref g2]) hX ok_H_judge rfl ?_
        refine kx_qald hg2 hX ok_H_judge (nx := 61) rfl (fun b4 => ?_)
        refine kx_go 1 (pc' := 62) (lv' := [.ref 0, .int x1, .ref g2, .int x3]) (st' := [.ref 0, .int (I g2 x3.toNatClampNeg)]) hX ok_H_judge rfl ?_
        refine kx_getp hX ok_H_judge rfl (q := 1) (nx := 65) rfl ?_
        refine kx_go 1 (pc' := 66) (lv' := [.ref 0, .int x1, .ref g2, .int x3]) (st' := [.int x3, .ref 1, .int (I g2 x3.toNatClampNeg)]) hX ok_H_judge rfl ?_
        refine kx_bind (fun p5 hp5 => ?_)
        refine kx_V (r := 1) (as := [.int x3]) (by decide) hX ok_H_judge (nx := 69) rfl l_H_88 (by decide) rfl (fun _ => s_Wall_earlyOf (G := G) (d := 4) (Nat.le_refl _) C I x3 p5 hp5) (by omega) rfl (rest := [.int (I g2 x3.toNatClampNeg)]) rfl (Nat.le_of_ble_eq_true rfl) ⟨Nat.le_of_ble_eq_true rfl, Nat.le_of_ble_eq_true rfl⟩ ?_
        show _ → kW G X m_H_judge C p5.2 0 0 69 [.ref 0, .int x1, .ref g2, .int x3] [.int p5.1, .int (I g2 x3.toNatClampNeg)]
        refine kx_go 1 (pc' := if (I g2 x3.toNatClampNeg) < p5.1 then 98 else 72) (lv' := [.ref 0, .int x1, .ref g2, .int x3]) (st' := []) hX ok_H_judge rfl ?_
        refine kx_ite (fun c6 => ?_) (fun c6 => ?_)
        · refine kx_weak (lv' := [.null, .null, .null, .int x3]) (by simp [xsub]) ?_
          intro h; have h := Option.some.inj h; subst h
          exact hk0 rfl
        · refine kx_go 2 (pc' := 74) (lv' := [.ref 0, .int x1, .ref g2, .int x3]) (st' := [.int x3, .ref g2]) hX ok_H_judge rfl ?_
          refine kx_qaldc hg2 hX ok_H_judge (nx := 75) rfl b4 (k := x3.toNatClampNeg) rfl ?_
          refine kx_go 1 (pc' := 76) (lv' := [.ref 0, .int x1, .ref g2, .int x3]) (st' := [.ref 0, .int (p5.2 g2 x3.toNatClampNeg)]) hX ok_H_judge rfl ?_
          refine kx_getp hX ok_H_judge rfl (q := 1) (nx := 79) rfl ?_
          refine kx_go 1 (pc' := 80) (lv' := [.ref 0, .int x1, .ref g2, .int x3]) (st' := [.int x3, .ref 1, .int (p5.2 g2 x3.toNatClampNeg)]) hX ok_H_judge rfl ?_
          refine kx_bind (fun p7 hp7 => ?_)
          refine kx_V (r := 1) (as := [.int x3]) (by decide) hX ok_H_judge (nx := 83) rfl l_H_91 (by decide) rfl (fun _ => s_Wall_lateOf (G := G) (d := 4) (Nat.le_refl _) C p5.2 x3 p7 hp7) (by omega) rfl (rest := [.int (p5.2 g2 x3.toNatClampNeg)]) rfl (Nat.le_of_ble_eq_true rfl) ⟨Nat.le_of_ble_eq_true rfl, Nat.le_of_ble_eq_true rfl⟩ ?_
          show _ → kW G X m_H_judge C p7.2 0 0 83 [.ref 0, .int x1, .ref g2, .int x3] [.int p7.1, .int (p5.2 g2 x3.toNatClampNeg)]
          refine kx_go 1 (pc' := if p7.1 < (p5.2 g2 x3.toNatClampNeg) then 98 else 86) (lv' := [.ref 0, .int x1, .ref g2, .int x3]) (st' := []) hX ok_H_judge rfl ?_
          refine kx_ite (fun c8 => ?_) (fun c8 => ?_)
          · refine kx_weak (lv' := [.null, .null, .null, .int x3]) (by simp [xsub]) ?_
            intro h; have h := Option.some.inj h; subst h
            exact hk0 rfl
          · refine kx_go 1 (pc' := 87) (lv' := [.ref 0, .int x1, .ref g2, .int x3]) (st' := [.ref 0]) hX ok_H_judge rfl ?_
            refine kx_getp hX ok_H_judge rfl (q := 1) (nx := 90) rfl ?_
            refine kx_go 2 (pc' := 92) (lv' := [.ref 0, .int x1, .ref g2, .int x3]) (st' := [.ref g2, .int x3, .ref 1]) hX ok_H_judge rfl ?_
            refine kx_bind (fun p9 hp9 => ?_)
            refine kx_V (r := 1) (as := [.int x3, .ref g2]) (by decide) hX ok_H_judge (nx := 95) rfl l_H_275 (by decide) rfl (fun _ => s_Wall_holdsUpTo (G := G) (d := 1) (Nat.le_refl _) C p7.2 x3 g2 hg2 p9 hp9) (by omega) rfl (rest := []) rfl (Nat.le_of_ble_eq_true rfl) ⟨Nat.le_of_ble_eq_true rfl, Nat.le_of_ble_eq_true rfl⟩ ?_
            show _ → kW G X m_H_judge C p7.2 0 0 95 [.ref 0, .int x1, .ref g2, .int x3] [.int p9]
            refine kx_go 1 (pc' := if p9 = (0 : Int32) then 98 else 100) (lv' := [.ref 0, .int x1, .ref g2, .int x3]) (st' := []) hX ok_H_judge rfl ?_
            refine kx_ite (fun c10 => ?_) (fun c10 => ?_)
            · refine kx_weak (lv' := [.null, .null, .null, .int x3]) (by simp [xsub]) ?_
              intro h; have h := Option.some.inj h; subst h
              exact hk0 rfl
            · refine kx_go 2 (pc' := 37) (lv' := [.ref 0, .int x1, .ref g2, .int (x3 + (1 : Int32))]) (st' := []) hX ok_H_judge rfl ?_
              exact fun h => ih (x3 + (1 : Int32)) p7.2 r hk0 hk1 h
def M_H_judge (C : HC) (I : HI) (x1 : Int32) : Option (Int32 × HI) := if (M_H_isSheet x1) = (0 : Int32) then (Option.bind (M_H_error I (1 : Int32)) fun p2 => some (p2.1, p2.2)) else (grd (bnd x1 4) (if (I 84 x1.toNatClampNeg) = (0 : Int32) then (Option.bind (M_H_error I (2 : Int32)) fun p5 => some (p5.1, p5.2)) else (Option.bind (L_H_judge_37 C x1 (80 + x1.toNatClampNeg) 1000 (0 : Int32) I) fun p6 => if p6.1 = 0 then (some (p6.2.1, p6.2.2)) else (some ((p6.2.2 1 1), p6.2.2)))))
theorem s_H_judge {G : xG} {d : Nat} (hd : 5 ≤ d) (C : HC) (I : HI) (x1 : Int32)  (r : Int32 × HI) : M_H_judge C I x1 = some r → kM G d m_H_judge [.ref 0, .int x1] C I 0 0 (some (.int r.1)) C r.2 := by
  unfold M_H_judge
  refine kM.of (by decide +kernel) (Nat.le_of_ble_eq_true rfl) (lv := [.ref 0, .int x1, .null, .null]) rfl (fun X hX hE => ?_)
  refine kx_go 1 (pc' := 1) (lv' := [.ref 0, .int x1, .null, .null]) (st' := [.int x1]) hX ok_H_judge rfl ?_
  refine kx_S (as := [.int x1]) hX ok_H_judge (nx := 4) rfl l_H_260 (fun _ => s_H_isSheet (G := G) (d := 1) (Nat.le_refl _) C I x1 _ rfl) (by omega) rfl (rest := []) rfl (Nat.le_of_ble_eq_true rfl) ⟨Nat.le_of_ble_eq_true rfl, Nat.le_of_ble_eq_true rfl⟩ ?_
  show _ → kW G X m_H_judge C I 0 0 4 [.ref 0, .int x1, .null, .null] [.int (M_H_isSheet x1)]
  refine kx_go 1 (pc' := if (M_H_isSheet x1) = (0 : Int32) then 7 else 13) (lv' := [.ref 0, .int x1, .null, .null]) (st' := []) hX ok_H_judge rfl ?_
  refine kx_ite (fun c1 => ?_) (fun c1 => ?_)
  · refine kx_go 2 (pc' := 9) (lv' := [.ref 0, .int x1, .null, .null]) (st' := [.int (1 : Int32), .ref 0]) hX ok_H_judge rfl ?_
    refine kx_bind (fun p2 hp2 => ?_)
    refine kx_V (r := 0) (as := [.int (1 : Int32)]) (by decide) hX ok_H_judge (nx := 12) rfl l_H_60 (by decide) rfl (fun _ => s_H_error (G := G) (d := 0) (Nat.le_refl _) C I (1 : Int32) p2 hp2) (by omega) rfl (rest := []) rfl (Nat.le_of_ble_eq_true rfl) ⟨Nat.le_of_ble_eq_true rfl, Nat.le_of_ble_eq_true rfl⟩ ?_
    show _ → kW G X m_H_judge C p2.2 0 0 12 [.ref 0, .int x1, .null, .null] [.int p2.1]
    intro h; have h := Option.some.inj h; subst h
    exact kx_iret hX hE ok_H_judge (nx := 13) rfl rfl ⟨Nat.le_of_ble_eq_true rfl, Nat.le_of_ble_eq_true rfl⟩
  · refine kx_go 1 (pc' := 14) (lv' := [.ref 0, .int x1, .null, .null]) (st' := [.ref 0]) hX ok_H_judge rfl ?_
    refine kx_getp hX ok_H_judge rfl (q := 84) (nx := 17) rfl ?_
    refine kx_go 1 (pc' := 18) (lv' := [.ref 0, .int x1, .null, .null]) (st' := [.int x1, .ref 84]) hX ok_H_judge rfl ?_
    refine kx_iald hX ok_H_judge (w := 4) (nx := 19) rfl (fun b3 => ?_)
    refine kx_go 1 (pc' := if (I 84 x1.toNatClampNeg) = (0 : Int32) then 22 else 28) (lv' := [.ref 0, .int x1, .null, .null]) (st' := []) hX ok_H_judge rfl ?_
    refine kx_ite (fun c4 => ?_) (fun c4 => ?_)
    · refine kx_go 2 (pc' := 24) (lv' := [.ref 0, .int x1, .null, .null]) (st' := [.int (2 : Int32), .ref 0]) hX ok_H_judge rfl ?_
      refine kx_bind (fun p5 hp5 => ?_)
      refine kx_V (r := 0) (as := [.int (2 : Int32)]) (by decide) hX ok_H_judge (nx := 27) rfl l_H_60 (by decide) rfl (fun _ => s_H_error (G := G) (d := 0) (Nat.le_refl _) C I (2 : Int32) p5 hp5) (by omega) rfl (rest := []) rfl (Nat.le_of_ble_eq_true rfl) ⟨Nat.le_of_ble_eq_true rfl, Nat.le_of_ble_eq_true rfl⟩ ?_
      show _ → kW G X m_H_judge C p5.2 0 0 27 [.ref 0, .int x1, .null, .null] [.int p5.1]
      intro h; have h := Option.some.inj h; subst h
      exact kx_iret hX hE ok_H_judge (nx := 28) rfl rfl ⟨Nat.le_of_ble_eq_true rfl, Nat.le_of_ble_eq_true rfl⟩
    · refine kx_go 1 (pc' := 29) (lv' := [.ref 0, .int x1, .null, .null]) (st' := [.ref 0]) hX ok_H_judge rfl ?_
      refine kx_getp hX ok_H_judge rfl (q := 79) (nx := 32) rfl ?_
      refine kx_go 1 (pc' := 33) (lv' := [.ref 0, .int x1, .null, .null]) (st' := [.int x1, .ref 79]) hX ok_H_judge rfl ?_
      refine kx_aaGk b3 hX ok_H_judge (nx := 34) rfl ?_
      refine kx_go 3 (pc' := 37) (lv' := [.ref 0, .int x1, .ref (80 + x1.toNatClampNeg), .int (0 : Int32)]) (st' := []) hX ok_H_judge rfl ?_
      refine kx_bind (fun p6 hp6 => ?_)
      refine kx_via2 (fun hk0 hk1 => s_L_H_judge_37 (G := G) (X := X) (by omega) hX C x1 (80 + x1.toNatClampNeg) (sh_kA (bnd_lt b3)) 1000 (0 : Int32) I p6 hk0 hk1 hp6) (fun _ => ?_) (fun _ => ?_)
      · refine kx_go 1 (pc' := 99) (lv' := [.null, .null, .null, .int p6.2.1]) (st' := [.int p6.2.1]) hX ok_H_judge rfl ?_
        intro h; have h := Option.some.inj h; subst h
        exact kx_iret hX hE ok_H_judge (nx := 100) rfl rfl ⟨Nat.le_of_ble_eq_true rfl, Nat.le_of_ble_eq_true rfl⟩
      · refine kx_go 1 (pc' := 107) (lv' := [.ref 0, .null, .null, .null]) (st' := [.ref 0]) hX ok_H_judge rfl ?_
        refine kx_getp hX ok_H_judge rfl (q := 1) (nx := 110) rfl ?_
        refine kx_geti hX ok_H_judge rfl (k := 1) (nx := 113) rfl ?_
        intro h; have h := Option.some.inj h; subst h
        exact kx_iret hX hE ok_H_judge (nx := 114) rfl rfl ⟨Nat.le_of_ble_eq_true rfl, Nat.le_of_ble_eq_true rfl⟩
def M_Wall_makeOfKind_2 (C : HC) (I : HI) (x1 : Int32) (x2 : Int32) : Option (HC × HI) := grd (bnd x1 8 && gS C (hU C x1.toNatClampNeg)) (if (M_Vkind C (hU C x1.toNatClampNeg)) = x2 then (some (C, I)) else (Option.bind (M_Wall_blankOfKind C I x2) fun p3 => grd (gS p3.2.1 p3.1) (grd (bnd x1 8 && gS p3.2.1 (hU p3.2.1 x1.toNatClampNeg)) (lt (M_VcopyFrom p3.2.1 p3.2.2 p3.1 (hU p3.2.1 x1.toNatClampNeg)) fun p6 => grd (bnd x1 8) (some ((cU p3.2.1 x1.toNatClampNeg p3.1), p6))))))
theorem s_Wall_makeOfKind_2 {G : xG} {d : Nat} (hd : 5 ≤ d) (C : HC) (I : HI) (x1 : Int32) (x2 : Int32)  (r : HC × HI) : M_Wall_makeOfKind_2 C I x1 x2 = some r → kM G d m_Wall_makeOfKind [.ref 32, .int x1, .int x2] C I 1 7 none r.1 r.2 := by
  unfold M_Wall_makeOfKind_2
  refine kM.of (by decide +kernel) (Nat.le_of_ble_eq_true rfl) (lv := [.ref 32, .int x1, .int x2, .null]) rfl (fun X hX hE => ?_)
  refine kx_go 1 (pc' := 1) (lv' := [.ref 32, .int x1, .int x2, .null]) (st' := [.ref 32]) hX ok_Wall_makeOfKind rfl ?_
  refine kx_getp hX ok_Wall_makeOfKind rfl (q := 33) (nx := 4) rfl ?_
  refine kx_go 1 (pc' := 5) (lv' := [.ref 32, .int x1, .int x2, .null]) (st' := [.int x1, .ref 33]) hX ok_Wall_makeOfKind rfl ?_
  refine kx_aaU hX ok_Wall_makeOfKind (nx := 6) rfl (fun bhq1 hq1 => ?_)
  refine kx_U (as := []) hq1 hX ok_Wall_makeOfKind (nx := 9) rfl (l_Wall_52 (gS_k hq1)) (fun _ => s_Vkind (G := G) (d := 0) (Nat.le_refl _) C I (hU C x1.toNatClampNeg) hq1 _ rfl) (by omega) rfl (rest := []) rfl (Nat.le_of_ble_eq_true rfl) ⟨Nat.le_of_ble_eq_true rfl, Nat.le_of_ble_eq_true rfl⟩ ?_
  show _ → kW G X m_Wall_makeOfKind C I 0 0 9 [.ref 32, .int x1, .int x2, .null] [.int (M_Vkind C (hU C x1.toNatClampNeg))]
  refine kx_go 2 (pc' := if (M_Vkind C (hU C x1.toNatClampNeg)) = x2 then 35 else 13) (lv' := [.ref 32, .int x1, .int x2, .null]) (st' := []) hX ok_Wall_makeOfKind rfl ?_
  refine kx_ite (fun c2 => ?_) (fun c2 => ?_)
  · intro h; have h := Option.some.inj h; subst h
    exact kx_vret hX hE ok_Wall_makeOfKind (nx := 36) rfl rfl ⟨Nat.le_of_ble_eq_true rfl, Nat.le_of_ble_eq_true rfl⟩
  · refine kx_go 1 (pc' := 14) (lv' := [.ref 32, .int x1, .int x2, .null]) (st' := [.int x2]) hX ok_Wall_makeOfKind rfl ?_
    refine kx_bind (fun p3 hp3 => ?_)
    refine kx_S (as := [.int x2]) hX ok_Wall_makeOfKind (nx := 17) rfl l_Wall_117 (fun _ => s_Wall_blankOfKind (G := G) (d := 4) (Nat.le_refl _) C I x2 p3 hp3) (by omega) rfl (rest := []) rfl (Nat.le_of_ble_eq_true rfl) ⟨Nat.le_of_ble_eq_true rfl, Nat.le_of_ble_eq_true rfl⟩ ?_
    show _ → kW G X m_Wall_makeOfKind p3.2.1 p3.2.2 (0 + 1) (0 + 7) 17 [.ref 32, .int x1, .int x2, .null] [.ref p3.1]
    refine kx_grd (fun hq4 => ?_)
    refine kx_go 3 (pc' := 20) (lv' := [.ref 32, .int x1, .int x2, .ref p3.1]) (st' := [.ref 32, .ref p3.1]) hX ok_Wall_makeOfKind rfl ?_
    refine kx_getp hX ok_Wall_makeOfKind rfl (q := 33) (nx := 23) rfl ?_
    refine kx_go 1 (pc' := 24) (lv' := [.ref 32, .int x1, .int x2, .ref p3.1]) (st' := [.int x1, .ref 33, .ref p3.1]) hX ok_Wall_makeOfKind rfl ?_
    refine kx_aaU hX ok_Wall_makeOfKind (nx := 25) rfl (fun bhq5 hq5 => ?_)
    refine kx_lti (fun p6 hp6 => ?_)
    refine kx_U (as := [.ref (hU p3.2.1 x1.toNatClampNeg)]) hq4 hX ok_Wall_makeOfKind (nx := 28) rfl (l_Wall_60 (gS_k hq4)) (fun _ => s_VcopyFrom (G := G) (d := 0) (Nat.le_refl _) p3.2.1 p3.2.2 p3.1 (hU p3.2.1 x1.toNatClampNeg) hq4 hq5 p6 hp6) (by omega) rfl (rest := []) rfl (Nat.le_of_ble_eq_true rfl) ⟨Nat.le_of_ble_eq_true rfl, Nat.le_of_ble_eq_true rfl⟩ ?_
    show _ → kW G X m_Wall_makeOfKind p3.2.1 p6 (0 + 1) (0 + 7) 28 [.ref 32, .int x1, .int x2, .ref p3.1] []
    refine kx_go 1 (pc' := 29) (lv' := [.ref 32, .int x1, .int x2, .ref p3.1]) (st' := [.ref 32]) hX ok_Wall_makeOfKind rfl ?_
    refine kx_getp hX ok_Wall_makeOfKind rfl (q := 33) (nx := 32) rfl ?_
    refine kx_go 2 (pc' := 34) (lv' := [.ref 32, .int x1, .int x2, .ref p3.1]) (st' := [.ref p3.1, .int x1, .ref 33]) hX ok_Wall_makeOfKind rfl ?_
    refine kx_asU hq4 hX ok_Wall_makeOfKind (nx := 35) rfl ?_
    intro h; have h := Option.some.inj h; subst h
    exact kx_vret hX hE ok_Wall_makeOfKind (nx := 36) rfl rfl ⟨Nat.le_of_ble_eq_true rfl, Nat.le_of_ble_eq_true rfl⟩
def L_Text_copyFrom_2_10  : Nat → Int32 → HI → Option (HI)
  | 0, _, _ => none
  | f + 1, x2, I => if (I 16 2) ≤ x2 then (some I) else (grd (bnd x2 50) (lt (xu I 48 x2.toNatClampNeg (I 17 x2.toNatClampNeg)) fun J3 => lt (xu J3 49 x2.toNatClampNeg (J3 18 x2.toNatClampNeg)) fun J4 => L_Text_copyFrom_2_10 f (x2 + (1 : Int32)) J4))
theorem s_L_Text_copyFrom_2_10 {G : xG} {X : xC} {d : Nat} (hd : 0 ≤ d) (hX : xAmb G X m_Text_copyFrom d 0 0)  (C : HC) : ∀ (f : Nat) (x2 : Int32) (I : HI) (r : HI), (kW G X m_Text_copyFrom C r 0 0 48 [.null, .null, .null] []) → L_Text_copyFrom_2_10 f x2 I = some r → kW G X m_Text_copyFrom C I 0 0 10 [.ref 47, .ref 16, .int x2] [] := by
  intro f
  induction f with
  | zero => intro x2 I r hk h; rw [L_Text_copyFrom_2_10] at h; cases h
  | succ f ih =>
    intro x2 I r hk
    rw [L_Text_copyFrom_2_10]
    refine kx_go 2 (pc' := 12) (lv' := [.ref 47, .ref 16, .int x2]) (st' := [.ref 16, .int x2]) hX ok_Text_copyFrom rfl ?_
    refine kx_geti hX ok_Text_copyFrom rfl (k := 2) (nx := 15) rfl ?_
    refine kx_go 1 (pc' := if (I 16 2) ≤ x2 then 48 else 18) (lv' := [.ref 47, .ref 16, .int x2]) (st' := []) hX ok_Text_copyFrom rfl ?_
    refine kx_ite (fun c1 => ?_) (fun c1 => ?_)
    · refine kx_weak (lv' := [.null, .null, .null]) (by simp [xsub]) ?_
      intro h; have h := Option.some.inj h; subst h
      exact hk
    · refine kx_go 1 (pc' := 19) (lv' := [.ref 47, .ref 16, .int x2]) (st' := [.ref 47]) hX ok_Text_copyFrom rfl ?_
      refine kx_getp hX ok_Text_copyFrom rfl (q := 48) (nx := 22) rfl ?_
      refine kx_go 2 (pc' := 24) (lv' := [.ref 47, .ref 16, .int x2]) (st' := [.ref 16, .int x2, .ref 48]) hX ok_Text_copyFrom rfl ?_
      refine kx_getp hX ok_Text_copyFrom rfl (q := 17) (nx := 27) rfl ?_
      refine kx_go 1 (pc' := 28) (lv' := [.ref 47, .ref 16, .int x2]) (st' := [.int x2, .ref 17, .int x2, .ref 48]) hX ok_Text_copyFrom rfl ?_
      refine kx_iald hX ok_Text_copyFrom (w := 50) (nx := 29) rfl (fun b2 => ?_)
      refine kx_iastc hX ok_Text_copyFrom (w := 50) (nx := 30) rfl b2 (k := x2.toNatClampNeg) rfl ?_
      refine kx_lt (Q := fun J3 => kW G X m_Text_copyFrom C J3 0 0 30 [.ref 47, .ref 16, .int x2] []) (fun J3 eJ3 => ?_)
      refine kx_go 1 (pc' := 31) (lv' := [.ref 47, .ref 16, .int x2]) (st' := [.ref 47]) hX ok_Text_copyFrom rfl ?_
      refine kx_getp hX ok_Text_copyFrom rfl (q := 49) (nx := 34) rfl ?_
      refine kx_go 2 (pc' := 36) (lv' := [.ref 47, .ref 16, .int x2]) (st' := [.ref 16, .int x2, .ref 49]) hX ok_Text_copyFrom rfl ?_
      refine kx_getp hX ok_Text_copyFrom rfl (q := 18) (nx := 39) rfl ?_
      refine kx_go 1 (pc' := 40) (lv' := [.ref 47, .ref 16, .int x2]) (st' := [.int x2, .ref 18, .int x2, .ref 49]) hX ok_Text_copyFrom rfl ?_
      refine kx_ialdc hX ok_Text_copyFrom (w := 50) (nx := 41) rfl b2 (k := x2.toNatClampNeg) rfl ?_
      refine kx_iastc hX ok_Text_copyFrom (w := 50) (nx := 42) rfl b2 (k := x2.toNatClampNeg) rfl ?_
      refine kx_lt (Q := fun J4 => kW G X m_Text_copyFrom C J4 0 0 42 [.ref 47, .ref 16, .int x2] []) (fun J4 eJ4 => ?_)
      refine kx_go 2 (pc' := 10) (lv' := [.ref 47, .ref 16, .int (x2 + (1 : Int32))]) (st' := []) hX ok_Text_copyFrom rfl ?_
      exact fun h => ih (x2 + (1 : Int32)) J4 r hk h
def M_Text_copyFrom_2 (I : HI) : Option (HI) := lt (xu I 47 2 (I 16 2)) fun J1 => Option.bind (L_Text_copyFrom_2_10 1000 (0 : Int32) J1) fun p2 => some p2
theorem s_Text_copyFrom_2 {G : xG} {d : Nat} (hd : 0 ≤ d) (C : HC) (I : HI)   (r : HI) : M_Text_copyFrom_2 I = some r → kM G d m_Text_copyFrom [.ref 47, .ref 16] C I 0 0 none C r := by
  unfold M_Text_copyFrom_2
  refine kM.of (by decide +kernel) (Nat.le_of_ble_eq_true rfl) (lv := [.ref 47, .ref 16, .null]) rfl (fun X hX hE => ?_)
  refine kx_go 2 (pc' := 2) (lv' := [.ref 47, .ref 16, .null]) (st' := [.ref 16, .ref 47]) hX ok_Text_copyFrom rfl ?_
  refine kx_geti hX ok_Text_copyFrom rfl (k := 2) (nx := 5) rfl ?_
  refine kx_puti hX ok_Text_copyFrom rfl (k := 2) (nx := 8) rfl rfl ?_
  refine kx_lt (Q := fun J1 => kW G X m_Text_copyFrom C J1 0 0 8 [.ref 47, .ref 16, .null] []) (fun J1 eJ1 => ?_)
  refine kx_go 2 (pc' := 10) (lv' := [.ref 47, .ref 16, .int (0 : Int32)]) (st' := []) hX ok_Text_copyFrom rfl ?_
  refine kx_bind (fun p2 hp2 => ?_)
  refine kx_via (fun hk => s_L_Text_copyFrom_2_10 (G := G) (X := X) (by omega) hX C 1000 (0 : Int32) J1 p2 hk hp2) ?_
  intro h; have h := Option.some.inj h; subst h
  exact kx_vret hX hE ok_Text_copyFrom (nx := 49) rfl rfl ⟨Nat.le_of_ble_eq_true rfl, Nat.le_of_ble_eq_true rfl⟩
def L_Text_copyFrom_3_10  : Nat → Int32 → HI → Option (HI)
  | 0, _, _ => none
  | f + 1, x2, I => if (I 21 2) ≤ x2 then (some I) else (grd (bnd x2 50) (lt (xu I 53 x2.toNatClampNeg (I 22 x2.toNatClampNeg)) fun J3 => lt (xu J3 54 x2.toNatClampNeg (J3 23 x2.toNatClampNeg)) fun J4 => L_Text_copyFrom_3_10 f (x2 + (1 : Int32)) J4))
theorem s_L_Text_copyFrom_3_10 {G : xG} {X : xC} {d : Nat} (hd : 0 ≤ d) (hX : xAmb G X m_Text_copyFrom d 0 0)  (C : HC) : ∀ (f : Nat) (x2 : Int32) (I : HI) (r : HI), (kW G X m_Text_copyFrom C r 0 0 48 [.null, .null, .null] []) → L_Text_copyFrom_3_10 f x2 I = some r → kW G X m_Text_copyFrom C I 0 0 10 [.ref 52, .ref 21, .int x2] [] := by
  intro f
  induction f with
  | zero => intro x2 I r hk h; rw [L_Text_copyFrom_3_10] at h; cases h
  | succ f ih =>
    intro x2 I r hk
    rw [L_Text_copyFrom_3_10]
    refine kx_go 2 (pc' := 12) (lv' := [.ref 52, .ref 21, .int x2]) (st' := [.ref 21, .int x2]) hX ok_Text_copyFrom rfl ?_
    refine kx_geti hX ok_Text_copyFrom rfl (k := 2) (nx := 15) rfl ?_
    refine kx_go 1 (pc' := if (I 21 2) ≤ x2 then 48 else 18) (lv' := [.ref 52, .ref 21, .int x2]) (st' := []) hX ok_Text_copyFrom rfl ?_
    refine kx_ite (fun c1 => ?_) (fun c1 => ?_)
    · refine kx_weak (lv' := [.null, .null, .null]) (by simp [xsub]) ?_
      intro h; have h := Option.some.inj h; subst h
      exact hk
    · refine kx_go 1 (pc' := 19) (lv' := [.ref 52, .ref 21, .int x2]) (st' := [.ref 52]) hX ok_Text_copyFrom rfl ?_
      refine kx_getp hX ok_Text_copyFrom rfl (q := 53) (nx := 22) rfl ?_
      refine kx_go 2 (pc' := 24) (lv' := [.ref 52, .ref 21, .int x2]) (st' := [.ref 21, .int x2, .ref 53]) hX ok_Text_copyFrom rfl ?_
      refine kx_getp hX ok_Text_copyFrom rfl (q := 22) (nx := 27) rfl ?_
      refine kx_go 1 (pc' := 28) (lv' := [.ref 52, .ref 21, .int x2]) (st' := [.int x2, .ref 22, .int x2, .ref 53]) hX ok_Text_copyFrom rfl ?_
      refine kx_iald hX ok_Text_copyFrom (w := 50) (nx := 29) rfl (fun b2 => ?_)
      refine kx_iastc hX ok_Text_copyFrom (w := 50) (nx := 30) rfl b2 (k := x2.toNatClampNeg) rfl ?_
      refine kx_lt (Q := fun J3 => kW G X m_Text_copyFrom C J3 0 0 30 [.ref 52, .ref 21, .int x2] []) (fun J3 eJ3 => ?_)
      refine kx_go 1 (pc' := 31) (lv' := [.ref 52, .ref 21, .int x2]) (st' := [.ref 52]) hX ok_Text_copyFrom rfl ?_
      refine kx_getp hX ok_Text_copyFrom rfl (q := 54) (nx := 34) rfl ?_
      refine kx_go 2 (pc' := 36) (lv' := [.ref 52, .ref 21, .int x2]) (st' := [.ref 21, .int x2, .ref 54]) hX ok_Text_copyFrom rfl ?_
      refine kx_getp hX ok_Text_copyFrom rfl (q := 23) (nx := 39) rfl ?_
      refine kx_go 1 (pc' := 40) (lv' := [.ref 52, .ref 21, .int x2]) (st' := [.int x2, .ref 23, .int x2, .ref 54]) hX ok_Text_copyFrom rfl ?_
      refine kx_ialdc hX ok_Text_copyFrom (w := 50) (nx := 41) rfl b2 (k := x2.toNatClampNeg) rfl ?_
      refine kx_iastc hX ok_Text_copyFrom (w := 50) (nx := 42) rfl b2 (k := x2.toNatClampNeg) rfl ?_
      refine kx_lt (Q := fun J4 => kW G X m_Text_copyFrom C J4 0 0 42 [.ref 52, .ref 21, .int x2] []) (fun J4 eJ4 => ?_)
      refine kx_go 2 (pc' := 10) (lv' := [.ref 52, .ref 21, .int (x2 + (1 : Int32))]) (st' := []) hX ok_Text_copyFrom rfl ?_
      exact fun h => ih (x2 + (1 : Int32)) J4 r hk h
def M_Text_copyFrom_3 (I : HI) : Option (HI) := lt (xu I 52 2 (I 21 2)) fun J1 => Option.bind (L_Text_copyFrom_3_10 1000 (0 : Int32) J1) fun p2 => some p2
theorem s_Text_copyFrom_3 {G : xG} {d : Nat} (hd : 0 ≤ d) (C : HC) (I : HI)   (r : HI) : M_Text_copyFrom_3 I = some r → kM G d m_Text_copyFrom [.ref 52, .ref 21] C I 0 0 none C r := by
  unfold M_Text_copyFrom_3
  refine kM.of (by decide +kernel) (Nat.le_of_ble_eq_true rfl) (lv := [.ref 52, .ref 21, .null]) rfl (fun X hX hE => ?_)
  refine kx_go 2 (pc' := 2) (lv' := [.ref 52, .ref 21, .null]) (st' := [.ref 21, .ref 52]) hX ok_Text_copyFrom rfl ?_
  refine kx_geti hX ok_Text_copyFrom rfl (k := 2) (nx := 5) rfl ?_
  refine kx_puti hX ok_Text_copyFrom rfl (k := 2) (nx := 8) rfl rfl ?_
  refine kx_lt (Q := fun J1 => kW G X m_Text_copyFrom C J1 0 0 8 [.ref 52, .ref 21, .null] []) (fun J1 eJ1 => ?_)
  refine kx_go 2 (pc' := 10) (lv' := [.ref 52, .ref 21, .int (0 : Int32)]) (st' := []) hX ok_Text_copyFrom rfl ?_
  refine kx_bind (fun p2 hp2 => ?_)
  refine kx_via (fun hk => s_L_Text_copyFrom_3_10 (G := G) (X := X) (by omega) hX C 1000 (0 : Int32) J1 p2 hk hp2) ?_
  intro h; have h := Option.some.inj h; subst h
  exact kx_vret hX hE ok_Text_copyFrom (nx := 49) rfl rfl ⟨Nat.le_of_ble_eq_true rfl, Nat.le_of_ble_eq_true rfl⟩
