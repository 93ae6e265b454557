def L_Model_mayCome_5 (x1 : Int32) (x2 : Int32) (I : HI) : Nat → Int32 → Int32 → Option (Nat)
  | 0, _, _ => none
  | f + 1, x3, x4 => if (I 89 0) ≤ x4 then (some 1) else (if ((x1 >>> (x4 &&& (31 : Int32))) &&& (1 : Int32)) = (1 : Int32) then (Option.bind (M_Model_mayLie I x4 x2) fun p3 => if p3 = (0 : Int32) then (some 0) else (if x3 < (0 : Int32) then (Option.bind (M_Model_stuff I x4) fun p6 => L_Model_mayCome_5 x1 x2 I f p6 (x4 + (1 : Int32))) else (Option.bind (M_Model_stuff I x4) fun p7 => if x3 = p7 then (Option.bind (M_Model_stuff I x4) fun p9 => L_Model_mayCome_5 x1 x2 I f p9 (x4 + (1 : Int32))) else (some 0)))) else (L_Model_mayCome_5 x1 x2 I f x3 (x4 + (1 : Int32))))
theorem s_L_Model_mayCome_5 {G : xG} {X : xC} {d : Nat} (hd : 2 ≤ d) (hX : xAmb G X m_Model_mayCome d 0 0)  (C : HC) (x1 : Int32) (x2 : Int32) (I : HI) : ∀ (f : Nat) (x3 : Int32) (x4 : Int32) (r : Nat), (r = 0 → kW G X m_Model_mayCome C I 0 0 50 [.null, .null, .null, .null, .null] []) → (¬ r = 0 → kW G X m_Model_mayCome C I 0 0 65 [.null, .null, .null, .null, .null] []) → L_Model_mayCome_5 x1 x2 I f x3 x4 = some r → kW G X m_Model_mayCome C I 0 0 5 [.ref 88, .int x1, .int x2, .int x3, .int x4] [] := by
  intro f
  induction f with
  | zero => intro x3 x4 r hk0 hk1 h; rw [L_Model_mayCome_5] at h; cases h
  | succ f ih =>
    intro x3 x4 r hk0 hk1
    rw [L_Model_mayCome_5]
    refine kx_go 2 (pc' := 8) (lv' := [.ref 88, .int x1, .int x2, .int x3, .int x4]) (st' := [.ref 88, .int x4]) hX ok_Model_mayCome rfl ?_
    refine kx_getp hX ok_Model_mayCome rfl (q := 89) (nx := 11) rfl ?_
    refine kx_go 1 (pc' := 12) (lv' := [.ref 88, .int x1, .int x2, .int x3, .int x4]) (st' := [.int (0 : Int32), .ref 89, .int x4]) hX ok_Model_mayCome rfl ?_
    refine kx_ialdc hX ok_Model_mayCome (w := 270) (nx := 13) rfl rfl (k := 0) rfl ?_
    refine kx_go 1 (pc' := if (I 89 0) ≤ x4 then 65 else 16) (lv' := [.ref 88, .int x1, .int x2, .int x3, .int x4]) (st' := []) hX ok_Model_mayCome rfl ?_
    refine kx_ite (fun c1 => ?_) (fun c1 => ?_)
    · refine kx_weak (lv' := [.null, .null, .null, .null, .null]) (by simp [xsub]) ?_
      intro h; have h := Option.some.inj h; subst h
      exact hk1 (show ¬ (1 : Nat) = 0 by decide)
    · refine kx_go 7 (pc' := if ((x1 >>> (x4 &&& (31 : Int32))) &&& (1 : Int32)) = (1 : Int32) then 26 else 59) (lv' := [.ref 88, .int x1, .int x2, .int x3, .int x4]) (st' := []) hX ok_Model_mayCome rfl ?_
      refine kx_ite (fun c2 => ?_) (fun c2 => ?_)
      · refine kx_go 3 (pc' := 30) (lv' := [.ref 88, .int x1, .int x2, .int x3, .int x4]) (st' := [.int x2, .int x4, .ref 88]) hX ok_Model_mayCome rfl ?_
        refine kx_bind (fun p3 hp3 => ?_)
        refine kx_V (r := 88) (as := [.int x4, .int x2]) (by decide) hX ok_Model_mayCome (nx := 33) rfl l_Model_214 (by decide) rfl (fun _ => s_Model_mayLie (G := G) (d := 0) (Nat.le_refl _) C I x4 x2 p3 hp3) (by omega) rfl (rest := []) rfl (Nat.le_of_ble_eq_true rfl) ⟨Nat.le_of_ble_eq_true rfl, Nat.le_of_ble_eq_true rfl⟩ ?_
        show _ → kW G X m_Model_mayCome C I 0 0 33 [.ref 88, .int x1, .int x2, .int x3, .int x4] [.int p3]
        refine kx_go 1 (pc' := if p3 = (0 : Int32) then 50 else 36) (lv' := [.ref 88, .int x1, .int x2, .int x3, .int x4]) (st' := []) hX ok_Model_mayCome rfl ?_
        refine kx_ite (fun c4 => ?_) (fun c4 => ?_)
        · refine kx_weak (lv' := [.null, .null, .null, .null, .null]) (by simp [xsub]) ?_
          intro h; have h := Option.some.inj h; subst h
          exact hk0 rfl
        · refine kx_go 2 (pc' := if x3 < (0 : Int32) then 52 else 40) (lv' := [.ref 88, .int x1, .int x2, .int x3, .int x4]) (st' := []) hX ok_Model_mayCome rfl ?_
          refine kx_ite (fun c5 => ?_) (fun c5 => ?_)
          · refine kx_go 2 (pc' := 55) (lv' := [.ref 88, .int x1, .int x2, .int x3, .int x4]) (st' := [.int x4, .ref 88]) hX ok_Model_mayCome rfl ?_
            refine kx_bind (fun p6 hp6 => ?_)
            refine kx_V (r := 88) (as := [.int x4]) (by decide) hX ok_Model_mayCome (nx := 58) rfl l_Model_176 (by decide) rfl (fun _ => s_Model_stuff (G := G) (d := 1) (Nat.le_refl _) C I x4 p6 hp6) (by omega) rfl (rest := []) rfl (Nat.le_of_ble_eq_true rfl) ⟨Nat.le_of_ble_eq_true rfl, Nat.le_of_ble_eq_true rfl⟩ ?_
            show _ → kW G X m_Model_mayCome C I 0 0 58 [.ref 88, .int x1, .int x2, .int x3, .int x4] [.int p6]
            refine kx_go 3 (pc' := 5) (lv' := [.ref 88, .int x1, .int x2, .int p6, .int (x4 + (1 : Int32))]) (st' := []) hX ok_Model_mayCome rfl ?_
            exact fun h => ih p6 (x4 + (1 : Int32)) r hk0 hk1 h
          · refine kx_go 3 (pc' := 44) (lv' := [.ref 88, .int x1, .int x2, .int x3, .int x4]) (st' := [.int x4, .ref 88, .int x3]) hX ok_Model_mayCome rfl ?_
            refine kx_bind (fun p7 hp7 => ?_)
            refine kx_V (r := 88) (as := [.int x4]) (by decide) hX ok_Model_mayCome (nx := 47) rfl l_Model_176 (by decide) rfl (fun _ => s_Model_stuff (G := G) (d := 1) (Nat.le_refl _) C I x4 p7 hp7) (by omega) rfl (rest := [.int x3]) rfl (Nat.le_of_ble_eq_true rfl) ⟨Nat.le_of_ble_eq_true rfl, Nat.le_of_ble_eq_true rfl⟩ ?_
            show _ → kW G X m_Model_mayCome C I 0 0 47 [.ref 88, .int x1, .int x2, .int x3, .int x4] [.int p7, .int x3]
            refine kx_go 1 (pc' := if x3 = p7 then 52 else 50) (lv' := [.ref 88, .int x1, .int x2, .int x3, .int x4]) (st' := []) hX ok_Model_mayCome rfl ?_
            refine kx_ite (fun c8 => ?_) (fun c8 => ?_)
            · refine kx_go 2 (pc' := 55) (lv' := [.ref 88, .int x1, .int x2, .int x3, .int x4]) (st' := [.int x4, .ref 88]) hX ok_Model_mayCome rfl ?_
              refine kx_bind (fun p9 hp9 => ?_)
              refine kx_V (r := 88) (as := [.int x4]) (by decide) hX ok_Model_mayCome (nx := 58) rfl l_Model_176 (by decide) rfl (fun _ => s_Model_stuff (G := G) (d := 1) (Nat.le_refl _) C I x4 p9 hp9) (by omega) rfl (rest := []) rfl (Nat.le_of_ble_eq_true rfl) ⟨Nat.le_of_ble_eq_true rfl, Nat.le_of_ble_eq_true rfl⟩ ?_
              show _ → kW G X m_Model_mayCome C I 0 0 58 [.ref 88, .int x1, .int x2, .int x3, .int x4] [.int p9]
              refine kx_go 3 (pc' := 5) (lv' := [.ref 88, .int x1, .int x2, .int p9, .int (x4 + (1 : Int32))]) (st' := []) hX ok_Model_mayCome rfl ?_
              exact fun h => ih p9 (x4 + (1 : Int32)) r hk0 hk1 h
            · refine kx_weak (lv' := [.null, .null, .null, .null, .null]) (by simp [xsub]) ?_
              intro h; have h := Option.some.inj h; subst h
              exact hk0 rfl
      · refine kx_go 2 (pc' := 5) (lv' := [.ref 88, .int x1, .int x2, .int x3, .int (x4 + (1 : Int32))]) (st' := []) hX ok_Model_mayCome rfl ?_
        exact fun h => ih x3 (x4 + (1 : Int32)) r hk0 hk1 h
def M_Model_mayCome (I : HI) (x1 : Int32) (x2 : Int32) : Option (Int32) := Option.bind (L_Model_mayCome_5 x1 x2 I 1000 (-1 : Int32) (0 : Int32)) fun p1 => if p1 = 0 then (some (0 : Int32)) else (some (1 : Int32))
theorem s_Model_mayCome {G : xG} {d : Nat} (hd : 2 ≤ d) (C : HC) (I : HI) (x1 : Int32) (x2 : Int32)  (r : Int32) : M_Model_mayCome I x1 x2 = some r → kM G d m_Model_mayCome [.ref 88, .int x1, .int x2] C I 0 0 (some (.int r)) C I := by
  unfold M_Model_mayCome
  refine kM.of (by decide +kernel) (Nat.le_of_ble_eq_true rfl) (lv := [.ref 88, .int x1, .int x2, .null, .null]) rfl (fun X hX hE => ?_)
  refine kx_go 4 (pc' := 5) (lv' := [.ref 88, .int x1, .int x2, .int (-1 : Int32), .int (0 : Int32)]) (st' := []) hX ok_Model_mayCome rfl ?_
  refine kx_bind (fun p1 hp1 => ?_)
  refine kx_via2 (fun hk0 hk1 => s_L_Model_mayCome_5 (G := G) (X := X) (by omega) hX C x1 x2 I 1000 (-1 : Int32) (0 : Int32) p1 hk0 hk1 hp1) (fun _ => ?_) (fun _ => ?_)
  · refine kx_go 1 (pc' := 51) (lv' := [.null, .null, .null, .null, .null]) (st' := [.int (0 : Int32)]) hX ok_Model_mayCome rfl ?_
    intro h; have h := Option.some.inj h; subst h
    exact kx_zret hX hE ok_Model_mayCome (nx := 52) rfl rfl (Or.inl rfl) ⟨Nat.le_of_ble_eq_true rfl, Nat.le_of_ble_eq_true rfl⟩
  · refine kx_go 1 (pc' := 66) (lv' := [.null, .null, .null, .null, .null]) (st' := [.int (1 : Int32)]) hX ok_Model_mayCome rfl ?_
    intro h; have h := Option.some.inj h; subst h
    exact kx_zret hX hE ok_Model_mayCome (nx := 67) rfl rfl (Or.inr rfl) ⟨Nat.le_of_ble_eq_true rfl, Nat.le_of_ble_eq_true rfl⟩
def L_Model_times_59 (x1 : Int32) (x2 : Int32) (x3 : Int32) (x4 : Int32) : Nat → Int32 → HI → Option (HI)
  | 0, _, _ => none
  | f + 1, x5, I => if x5 ≤ (0 : Int32) then (some I) else (Option.bind (M_Model_mayCome I x5 x3) fun p2 => if p2 = (0 : Int32) then (L_Model_times_59 x1 x2 x3 x4 f ((x5 - (1 : Int32)) &&& x4) I) else (grd (bnd (x3 ||| x5) 256) (grd (bnd x3 256) (if (I 96 x3.toNatClampNeg) ≤ ((I 96 (x3 ||| x5).toNatClampNeg) + (1 : Int32)) then (lt (xu I 96 x3.toNatClampNeg (I 96 x3.toNatClampNeg)) fun J7 => L_Model_times_59 x1 x2 x3 x4 f ((x5 - (1 : Int32)) &&& x4) J7) else (lt (xu I 96 x3.toNatClampNeg ((I 96 (x3 ||| x5).toNatClampNeg) + (1 : Int32))) fun J8 => L_Model_times_59 x1 x2 x3 x4 f ((x5 - (1 : Int32)) &&& x4) J8)))))
theorem s_L_Model_times_59 {G : xG} {X : xC} {d : Nat} (hd : 3 ≤ d) (hX : xAmb G X m_Model_times d 0 0)  (C : HC) (x1 : Int32) (x2 : Int32) (x3 : Int32) (x4 : Int32) : ∀ (f : Nat) (x5 : Int32) (I : HI) (r : HI), (kW G X m_Model_times C r 0 0 132 [.ref 88, .int x1, .int x2, .int x3, .null, .null] []) → L_Model_times_59 x1 x2 x3 x4 f x5 I = some r → kW G X m_Model_times C I 0 0 59 [.ref 88, .int x1, .int x2, .int x3, .int x4, .int x5] [] := by
  intro f
  induction f with
  | zero => intro x5 I r hk h; rw [L_Model_times_59] at h; cases h
  | succ f ih =>
    intro x5 I r hk
    rw [L_Model_times_59]
    refine kx_go 2 (pc' := if x5 ≤ (0 : Int32) then 132 else 64) (lv' := [.ref 88, .int x1, .int x2, .int x3, .int x4, .int x5]) (st' := []) hX ok_Model_times rfl ?_
    refine kx_ite (fun c1 => ?_) (fun c1 => ?_)
    · refine kx_weak (lv' := [.ref 88, .int x1, .int x2, .int x3, .null, .null]) (by simp [xsub]) ?_
      intro h; have h := Option.some.inj h; subst h
      exact hk
    · refine kx_go 3 (pc' := 68) (lv' := [.ref 88, .int x1, .int x2, .int x3, .int x4, .int x5]) (st' := [.int x3, .int x5, .ref 88]) hX ok_Model_times rfl ?_
      refine kx_bind (fun p2 hp2 => ?_)
      refine kx_V (r := 88) (as := [.int x5, .int x3]) (by decide) hX ok_Model_times (nx := 71) rfl l_Model_260 (by decide) rfl (fun _ => s_Model_mayCome (G := G) (d := 2) (Nat.le_refl _) C I x5 x3 p2 hp2) (by omega) rfl (rest := []) rfl (Nat.le_of_ble_eq_true rfl) ⟨Nat.le_of_ble_eq_true rfl, Nat.le_of_ble_eq_true rfl⟩ ?_
      show _ → kW G X m_Model_times C I 0 0 71 [.ref 88, .int x1, .int x2, .int x3, .int x4, .int x5] [.int p2]
      refine kx_go 1 (pc' := if p2 = (0 : Int32) then 120 else 74) (lv' := [.ref 88, .int x1, .int x2, .int x3, .int x4, .int x5]) (st' := []) hX ok_Model_times rfl ?_
      refine kx_ite (fun c3 => ?_) (fun c3 => ?_)
      · refine kx_go 7 (pc' := 59) (lv' := [.ref 88, .int x1, .int x2, .int x3, .int x4, .int ((x5 - (1 : Int32)) &&& x4)]) (st' := []) hX ok_Model_times rfl ?_
        exact fun h => ih ((x5 - (1 : Int32)) &&& x4) I r hk h
      · refine kx_go 1 (pc' := 75) (lv' := [.ref 88, .int x1, .int x2, .int x3, .int x4, .int x5]) (st' := [.ref 88]) hX ok_Model_times rfl ?_
        refine kx_getp hX ok_Model_times rfl (q := 96) (nx := 78) rfl ?_
        refine kx_go 2 (pc' := 80) (lv' := [.ref 88, .int x1, .int x2, .int x3, .int x4, .int x5]) (st' := [.ref 88, .int x3, .ref 96]) hX ok_Model_times rfl ?_
        refine kx_getp hX ok_Model_times rfl (q := 96) (nx := 83) rfl ?_
        refine kx_go 3 (pc' := 87) (lv' := [.ref 88, .int x1, .int x2, .int x3, .int x4, .int x5]) (st' := [.int (x3 ||| x5), .ref 96, .int x3, .ref 96]) hX ok_Model_times rfl ?_
        refine kx_iald hX ok_Model_times (w := 256) (nx := 88) rfl (fun b4 => ?_)
        refine kx_go 3 (pc' := 91) (lv' := [.ref 88, .int x1, .int x2, .int x3, .int x4, .int x5]) (st' := [.ref 88, .int ((I 96 (x3 ||| x5).toNatClampNeg) + (1 : Int32)), .int x3, .ref 96]) hX ok_Model_times rfl ?_
        refine kx_getp hX ok_Model_times rfl (q := 96) (nx := 94) rfl ?_
        refine kx_go 1 (pc' := 95) (lv' := [.ref 88, .int x1, .int x2, .int x3, .int x4, .int x5]) (st' := [.int x3, .ref 96, .int ((I 96 (x3 ||| x5).toNatClampNeg) + (1 : Int32)), .int x3, .ref 96]) hX ok_Model_times rfl ?_
        refine kx_iald hX ok_Model_times (w := 256) (nx := 96) rfl (fun b5 => ?_)
        refine kx_go 1 (pc' := if (I 96 x3.toNatClampNeg) ≤ ((I 96 (x3 ||| x5).toNatClampNeg) + (1 : Int32)) then 113 else 99) (lv' := [.ref 88, .int x1, .int x2, .int x3, .int x4, .int x5]) (st' := [.int x3, .ref 96]) hX ok_Model_times rfl ?_
        refine kx_ite (fun c6 => ?_) (fun c6 => ?_)
        · refine kx_go 1 (pc' := 114) (lv' := [.ref 88, .int x1, .int x2, .int x3, .int x4, .int x5]) (st' := [.ref 88, .int x3, .ref 96]) hX ok_Model_times rfl ?_
          refine kx_getp hX ok_Model_times rfl (q := 96) (nx := 117) rfl ?_
          refine kx_go 1 (pc' := 118) (lv' := [.ref 88, .int x1, .int x2, .int x3, .int x4, .int x5]) (st' := [.int x3, .ref 96, .int x3, .ref 96]) hX ok_Model_times rfl ?_
          refine kx_ialdc hX ok_Model_times (w := 256) (nx := 119) rfl b5 (k := x3.toNatClampNeg) rfl ?_
          refine kx_iastc hX ok_Model_times (w := 256) (nx := 120) rfl b5 (k := x3.toNatClampNeg) rfl ?_
          refine kx_lt (Q := fun J7 => kW G X m_Model_times C J7 0 0 120 [.ref 88, .int x1, .int x2, .int x3, .int x4, .int x5] []) (fun J7 eJ7 => ?_)
          refine kx_go 7 (pc' := 59) (lv' := [.ref 88, .int x1, .int x2, .int x3, .int x4, .int ((x5 - (1 : Int32)) &&& x4)]) (st' := []) hX ok_Model_times rfl ?_
          exact fun h => ih ((x5 - (1 : Int32)) &&& x4) J7 r hk h
        · refine kx_go 1 (pc' := 100) (lv' := [.ref 88, .int x1, .int x2, .int x3, .int x4, .int x5]) (st' := [.ref 88, .int x3, .ref 96]) hX ok_Model_times rfl ?_
          refine kx_getp hX ok_Model_times rfl (q := 96) (nx := 103) rfl ?_
          refine kx_go 3 (pc' := 107) (lv' := [.ref 88, .int x1, .int x2, .int x3, .int x4, .int x5]) (st' := [.int (x3 ||| x5), .ref 96, .int x3, .ref 96]) hX ok_Model_times rfl ?_
          refine kx_ialdc hX ok_Model_times (w := 256) (nx := 108) rfl b4 (k := (x3 ||| x5).toNatClampNeg) rfl ?_
          refine kx_go 3 (pc' := 119) (lv' := [.ref 88, .int x1, .int x2, .int x3, .int x4, .int x5]) (st' := [.int ((I 96 (x3 ||| x5).toNatClampNeg) + (1 : Int32)), .int x3, .ref 96]) hX ok_Model_times rfl ?_
          refine kx_iastc hX ok_Model_times (w := 256) (nx := 120) rfl b5 (k := x3.toNatClampNeg) rfl ?_
          refine kx_lt (Q := fun J8 => kW G X m_Model_times C J8 0 0 120 [.ref 88, .int x1, .int x2, .int x3, .int x4, .int x5] []) (fun J8 eJ8 => ?_)
          refine kx_go 7 (pc' := 59) (lv' := [.ref 88, .int x1, .int x2, .int x3, .int x4, .int ((x5 - (1 : Int32)) &&& x4)]) (st' := []) hX ok_Model_times rfl ?_
          exact fun h => ih ((x5 - (1 : Int32)) &&& x4) J8 r hk h
def L_Model_times_36 (x1 : Int32) (x2 : Int32) : Nat → Int32 → HI → Option (HI)
  | 0, _, _ => none
  | f + 1, x3, I => if x3 < (0 : Int32) then (some I) else (grd (bnd x3 256) (lt (xu I 96 x3.toNatClampNeg (1000000 : Int32)) fun J3 => Option.bind (L_Model_times_59 x1 x2 x3 (x2 &&& (x3 ^^^ (-1 : Int32))) 1000 (x2 &&& (x3 ^^^ (-1 : Int32))) J3) fun p4 => L_Model_times_36 x1 x2 f (x3 + (-1 : Int32)) p4))
theorem s_L_Model_times_36 {G : xG} {X : xC} {d : Nat} (hd : 3 ≤ d) (hX : xAmb G X m_Model_times d 0 0)  (C : HC) (x1 : Int32) (x2 : Int32) : ∀ (f : Nat) (x3 : Int32) (I : HI) (r : HI), (kW G X m_Model_times C r 0 0 138 [.ref 88, .int x1, .int x2, .null, .null, .null] []) → L_Model_times_36 x1 x2 f x3 I = some r → kW G X m_Model_times C I 0 0 36 [.ref 88, .int x1, .int x2, .int x3, .null, .null] [] := by
  intro f
  induction f with
  | zero => intro x3 I r hk h; rw [L_Model_times_36] at h; cases h
  | succ f ih =>
    intro x3 I r hk
    rw [L_Model_times_36]
    refine kx_go 2 (pc' := if x3 < (0 : Int32) then 138 else 40) (lv' := [.ref 88, .int x1, .int x2, .int x3, .null, .null]) (st' := []) hX ok_Model_times rfl ?_
    refine kx_ite (fun c1 => ?_) (fun c1 => ?_)
    · refine kx_weak (lv' := [.ref 88, .int x1, .int x2, .null, .null, .null]) (by simp [xsub]) ?_
      intro h; have h := Option.some.inj h; subst h
      exact hk
    · refine kx_go 1 (pc' := 41) (lv' := [.ref 88, .int x1, .int x2, .int x3, .null, .null]) (st' := [.ref 88]) hX ok_Model_times rfl ?_
      refine kx_getp hX ok_Model_times rfl (q := 96) (nx := 44) rfl ?_
      refine kx_go 2 (pc' := 47) (lv' := [.ref 88, .int x1, .int x2, .int x3, .null, .null]) (st' := [.int (1000000 : Int32), .int x3, .ref 96]) hX ok_Model_times rfl ?_
      refine kx_iast hX ok_Model_times (w := 256) (nx := 48) rfl (fun b2 => ?_)
      refine kx_lt (Q := fun J3 => kW G X m_Model_times C J3 0 0 48 [.ref 88, .int x1, .int x2, .int x3, .null, .null] []) (fun J3 eJ3 => ?_)
      refine kx_go 8 (pc' := 59) (lv' := [.ref 88, .int x1, .int x2, .int x3, .int (x2 &&& (x3 ^^^ (-1 : Int32))), .int (x2 &&& (x3 ^^^ (-1 : Int32)))]) (st' := []) hX ok_Model_times rfl ?_
      refine kx_bind (fun p4 hp4 => ?_)
      refine kx_via (fun hk => s_L_Model_times_59 (G := G) (X := X) (by omega) hX C x1 x2 x3 (x2 &&& (x3 ^^^ (-1 : Int32))) 1000 (x2 &&& (x3 ^^^ (-1 : Int32))) J3 p4 hk hp4) ?_
      refine kx_go 2 (pc' := 36) (lv' := [.ref 88, .int x1, .int x2, .int (x3 + (-1 : Int32)), .null, .null]) (st' := []) hX ok_Model_times rfl ?_
      exact fun h => ih (x3 + (-1 : Int32)) p4 r hk h
def L_Model_times_165 (x1 : Int32) (I : HI) : Nat → Int32 → Option (Int32)
  | 0, _ => none
  | f + 1, x3 => if x3 ≤ (0 : Int32) then (some x3) else (Option.bind (M_Model_mayCome I x3 (0 : Int32)) fun p2 => if p2 = (0 : Int32) then (L_Model_times_165 x1 I f (x3 + (1 : Int32))) else (grd (bnd x3 256) (if ((I 96 x3.toNatClampNeg) + (1 : Int32)) = (I 96 0) then (some x3) else (L_Model_times_165 x1 I f (x3 + (1 : Int32))))))
theorem s_L_Model_times_165 {G : xG} {X : xC} {d : Nat} (hd : 3 ≤ d) (hX : xAmb G X m_Model_times d 0 0)  (C : HC) (x1 : Int32) (I : HI) : ∀ (f : Nat) (x3 : Int32) (r : Int32), (kW G X m_Model_times C I 0 0 201 [.ref 88, .int x1, .null, .int r, .null, .null] []) → L_Model_times_165 x1 I f x3 = some r → kW G X m_Model_times C I 0 0 165 [.ref 88, .int x1, .null, .int x3, .null, .null] [] := by
  intro f
  induction f with
  | zero => intro x3 r hk h; rw [L_Model_times_165] at h; cases h
  | succ f ih =>
    intro x3 r hk
    rw [L_Model_times_165]
    refine kx_go 2 (pc' := if x3 ≤ (0 : Int32) then 201 else 169) (lv' := [.ref 88, .int x1, .null, .int x3, .null, .null]) (st' := []) hX ok_Model_times rfl ?_
    refine kx_ite (fun c1 => ?_) (fun c1 => ?_)
    · intro h; have h := Option.some.inj h; subst h
      exact hk
    · refine kx_go 3 (pc' := 172) (lv' := [.ref 88, .int x1, .null, .int x3, .null, .null]) (st' := [.int (0 : Int32), .int x3, .ref 88]) hX ok_Model_times rfl ?_
      refine kx_bind (fun p2 hp2 => ?_)
      refine kx_V (r := 88) (as := [.int x3, .int (0 : Int32)]) (by decide) hX ok_Model_times (nx := 175) rfl l_Model_260 (by decide) rfl (fun _ => s_Model_mayCome (G := G) (d := 2) (Nat.le_refl _) C I x3 (0 : Int32) p2 hp2) (by omega) rfl (rest := []) rfl (Nat.le_of_ble_eq_true rfl) ⟨Nat.le_of_ble_eq_true rfl, Nat.le_of_ble_eq_true rfl⟩ ?_
      show _ → kW G X m_Model_times C I 0 0 175 [.ref 88, .int x1, .null, .int x3, .null, .null] [.int p2]
      refine kx_go 1 (pc' := if p2 = (0 : Int32) then 195 else 178) (lv' := [.ref 88, .int x1, .null, .int x3, .null, .null]) (st' := []) hX ok_Model_times rfl ?_
      refine kx_ite (fun c3 => ?_) (fun c3 => ?_)
      · refine kx_go 2 (pc' := 165) (lv' := [.ref 88, .int x1, .null, .int (x3 + (1 : Int32)), .null, .null]) (st' := []) hX ok_Model_times rfl ?_
        exact fun h => ih (x3 + (1 : Int32)) r hk h
      · refine kx_go 1 (pc' := 179) (lv' := [.ref 88, .int x1, .null, .int x3, .null, .null]) (st' := [.ref 88]) hX ok_Model_times rfl ?_
        refine kx_getp hX ok_Model_times rfl (q := 96) (nx := 182) rfl ?_
        refine kx_go 1 (pc' := 183) (lv' := [.ref 88, .int x1, .null, .int x3, .null, .null]) (st' := [.int x3, .ref 96]) hX ok_Model_times rfl ?_
        refine kx_iald hX ok_Model_times (w := 256) (nx := 184) rfl (fun b4 => ?_)
        refine kx_go 3 (pc' := 187) (lv' := [.ref 88, .int x1, .null, .int x3, .null, .null]) (st' := [.ref 88, .int ((I 96 x3.toNatClampNeg) + (1 : Int32))]) hX ok_Model_times rfl ?_
        refine kx_getp hX ok_Model_times rfl (q := 96) (nx := 190) rfl ?_
        refine kx_go 1 (pc' := 191) (lv' := [.ref 88, .int x1, .null, .int x3, .null, .null]) (st' := [.int (0 : Int32), .ref 96, .int ((I 96 x3.toNatClampNeg) + (1 : Int32))]) hX ok_Model_times rfl ?_
        refine kx_ialdc hX ok_Model_times (w := 256) (nx := 192) rfl rfl (k := 0) rfl ?_
        refine kx_go 1 (pc' := if ((I 96 x3.toNatClampNeg) + (1 : Int32)) = (I 96 0) then 201 else 195) (lv' := [.ref 88, .int x1, .null, .int x3, .null, .null]) (st' := []) hX ok_Model_times rfl ?_
        refine kx_ite (fun c5 => ?_) (fun c5 => ?_)
        · intro h; have h := Option.some.inj h; subst h
          exact hk
        · refine kx_go 2 (pc' := 165) (lv' := [.ref 88, .int x1, .null, .int (x3 + (1 : Int32)), .null, .null]) (st' := []) hX ok_Model_times rfl ?_
          exact fun h => ih (x3 + (1 : Int32)) r hk h
def M_Model_times (I : HI) (x1 : Int32) : Option (Int32 × HI) := if (M_Model_in (x1.toInt64) (Int64.ofNat 0) (Int64.ofNat 1)) = (0 : Int32) then (Option.bind (M_Model_finds I (1 : Int32)) fun p2 => some (p2.1, p2.2)) else (Option.bind (M_Model_findBelow I) fun p3 => grd (bnd (M_Model_allStrokes p3) 256) (lt (xu p3 96 (M_Model_allStrokes p3).toNatClampNeg (0 : Int32)) fun J5 => Option.bind (L_Model_times_36 x1 (M_Model_allStrokes p3) 1000 ((M_Model_allStrokes p3) - (1 : Int32)) J5) fun p6 => if (p6 96 0) < (1000000 : Int32) then (if (M_Model_allStrokes p3) = (0 : Int32) then (Option.bind (L_Model_times_165 x1 p6 1000 (0 : Int32)) fun p9 => if x1 = (0 : Int32) then (some ((p6 96 0), p6)) else (some (p9, p6))) else (Option.bind (L_Model_times_165 x1 p6 1000 (1 : Int32)) fun p11 => if x1 = (0 : Int32) then (some ((p6 96 0), p6)) else (some (p11, p6)))) else (Option.bind (M_Model_finds p6 (2 : Int32)) fun p13 => some (p13.1, p13.2))))
theorem s_Model_times {G : xG} {d : Nat} (hd : 3 ≤ d) (C : HC) (I : HI) (x1 : Int32)  (r : Int32 × HI) : M_Model_times I x1 = some r → kM G d m_Model_times [.ref 88, .int x1] C I 0 0 (some (.int r.1)) C r.2 := by
  unfold M_Model_times
  refine kM.of (by decide +kernel) (Nat.le_of_ble_eq_true rfl) (lv := [.ref 88, .int x1, .null, .null, .null, .null]) rfl (fun X hX hE => ?_)
  refine kx_go 4 (pc' := 4) (lv' := [.ref 88, .int x1, .null, .null, .null, .null]) (st' := [.long (Int64.ofNat 1), .long (Int64.ofNat 0), .long (x1.toInt64)]) hX ok_Model_times rfl ?_
  refine kx_S (as := [.long (x1.toInt64), .long (Int64.ofNat 0), .long (Int64.ofNat 1)]) hX ok_Model_times (nx := 7) rfl l_Model_66 (fun _ => s_Model_in (G := G) (d := 0) (Nat.le_refl _) C I (x1.toInt64) (Int64.ofNat 0) (Int64.ofNat 1) _ rfl) (by omega) rfl (rest := []) rfl (Nat.le_of_ble_eq_true rfl) ⟨Nat.le_of_ble_eq_true rfl, Nat.le_of_ble_eq_true rfl⟩ ?_
  show _ → kW G X m_Model_times C I 0 0 7 [.ref 88, .int x1, .null, .null, .null, .null] [.int (M_Model_in (x1.toInt64) (Int64.ofNat 0) (Int64.ofNat 1))]
  refine kx_go 1 (pc' := if (M_Model_in (x1.toInt64) (Int64.ofNat 0) (Int64.ofNat 1)) = (0 : Int32) then 10 else 16) (lv' := [.ref 88, .int x1, .null, .null, .null, .null]) (st' := []) hX ok_Model_times rfl ?_
  refine kx_ite (fun c1 => ?_) (fun c1 => ?_)
  · refine kx_go 2 (pc' := 12) (lv' := [.ref 88, .int x1, .null, .null, .null, .null]) (st' := [.int (1 : Int32), .ref 88]) hX ok_Model_times rfl ?_
    refine kx_bind (fun p2 hp2 => ?_)
    refine kx_V (r := 88) (as := [.int (1 : Int32)]) (by decide) hX ok_Model_times (nx := 15) rfl l_Model_129 (by decide) rfl (fun _ => s_Model_finds (G := G) (d := 0) (Nat.le_refl _) C I (1 : Int32) p2 hp2) (by omega) rfl (rest := []) rfl (Nat.le_of_ble_eq_true rfl) ⟨Nat.le_of_ble_eq_true rfl, Nat.le_of_ble_eq_true rfl⟩ ?_
    show _ → kW G X m_Model_times C p2.2 0 0 15 [.ref 88, .int x1, .null, .null, .null, .null] [.int p2.1]
    intro h; have h := Option.some.inj h; subst h
    exact kx_iret hX hE ok_Model_times (nx := 16) rfl rfl ⟨Nat.le_of_ble_eq_true rfl, Nat.le_of_ble_eq_true rfl⟩
  · refine kx_go 1 (pc' := 17) (lv' := [.ref 88, .int x1, .null, .null, .null, .null]) (st' := [.ref 88]) hX ok_Model_times rfl ?_
    refine kx_bind (fun p3 hp3 => ?_)
    refine kx_V (r := 88) (as := []) (by decide) hX ok_Model_times (nx := 20) rfl l_Model_208 (by decide) rfl (fun _ => s_Model_findBelow (G := G) (d := 1) (Nat.le_refl _) C I  p3 hp3) (by omega) rfl (rest := []) rfl (Nat.le_of_ble_eq_true rfl) ⟨Nat.le_of_ble_eq_true rfl, Nat.le_of_ble_eq_true rfl⟩ ?_
    show _ → kW G X m_Model_times C p3 0 0 20 [.ref 88, .int x1, .null, .null, .null, .null] []
    refine kx_go 1 (pc' := 21) (lv' := [.ref 88, .int x1, .null, .null, .null, .null]) (st' := [.ref 88]) hX ok_Model_times rfl ?_
    refine kx_V (r := 88) (as := []) (by decide) hX ok_Model_times (nx := 24) rfl l_Model_211 (by decide) rfl (fun _ => s_Model_allStrokes (G := G) (d := 0) (Nat.le_refl _) C p3  _ rfl) (by omega) rfl (rest := []) rfl (Nat.le_of_ble_eq_true rfl) ⟨Nat.le_of_ble_eq_true rfl, Nat.le_of_ble_eq_true rfl⟩ ?_
    show _ → kW G X m_Model_times C p3 0 0 24 [.ref 88, .int x1, .null, .null, .null, .null] [.int (M_Model_allStrokes p3)]
    refine kx_go 2 (pc' := 26) (lv' := [.ref 88, .int x1, .int (M_Model_allStrokes p3), .null, .null, .null]) (st' := [.ref 88]) hX ok_Model_times rfl ?_
    refine kx_getp hX ok_Model_times rfl (q := 96) (nx := 29) rfl ?_
    refine kx_go 2 (pc' := 31) (lv' := [.ref 88, .int x1, .int (M_Model_allStrokes p3), .null, .null, .null]) (st' := [.int (0 : Int32), .int (M_Model_allStrokes p3), .ref 96]) hX ok_Model_times rfl ?_
    refine kx_iast hX ok_Model_times (w := 256) (nx := 32) rfl (fun b4 => ?_)
    refine kx_lt (Q := fun J5 => kW G X m_Model_times C J5 0 0 32 [.ref 88, .int x1, .int (M_Model_allStrokes p3), .null, .null, .null] []) (fun J5 eJ5 => ?_)
    refine kx_go 4 (pc' := 36) (lv' := [.ref 88, .int x1, .int (M_Model_allStrokes p3), .int ((M_Model_allStrokes p3) - (1 : Int32)), .null, .null]) (st' := []) hX ok_Model_times rfl ?_
    refine kx_bind (fun p6 hp6 => ?_)
    refine kx_via (fun hk => s_L_Model_times_36 (G := G) (X := X) (by omega) hX C x1 (M_Model_allStrokes p3) 1000 ((M_Model_allStrokes p3) - (1 : Int32)) J5 p6 hk hp6) ?_
    refine kx_go 1 (pc' := 139) (lv' := [.ref 88, .int x1, .int (M_Model_allStrokes p3), .null, .null, .null]) (st' := [.ref 88]) hX ok_Model_times rfl ?_
    refine kx_getp hX ok_Model_times rfl (q := 96) (nx := 142) rfl ?_
    refine kx_go 1 (pc' := 143) (lv' := [.ref 88, .int x1, .int (M_Model_allStrokes p3), .null, .null, .null]) (st' := [.int (0 : Int32), .ref 96]) hX ok_Model_times rfl ?_
    refine kx_ialdc hX ok_Model_times (w := 256) (nx := 144) rfl rfl (k := 0) rfl ?_
    refine kx_go 2 (pc' := if (p6 96 0) < (1000000 : Int32) then 155 else 149) (lv' := [.ref 88, .int x1, .int (M_Model_allStrokes p3), .null, .null, .null]) (st' := []) hX ok_Model_times rfl ?_
    refine kx_ite (fun c7 => ?_) (fun c7 => ?_)
    · refine kx_go 2 (pc' := if (M_Model_allStrokes p3) = (0 : Int32) then 159 else 163) (lv' := [.ref 88, .int x1, .int (M_Model_allStrokes p3), .null, .null, .null]) (st' := []) hX ok_Model_times rfl ?_
      refine kx_ite (fun c8 => ?_) (fun c8 => ?_)
      · refine kx_go 3 (pc' := 165) (lv' := [.ref 88, .int x1, .int (M_Model_allStrokes p3), .int (0 : Int32), .null, .null]) (st' := []) hX ok_Model_times rfl ?_
        refine kx_weak (lv' := [.ref 88, .int x1, .null, .int (0 : Int32), .null, .null]) (by simp [xsub]) ?_
        refine kx_bind (fun p9 hp9 => ?_)
        refine kx_via (fun hk => s_L_Model_times_165 (G := G) (X := X) (by omega) hX C x1 p6 1000 (0 : Int32) p9 hk hp9) ?_
        refine kx_go 2 (pc' := if x1 = (0 : Int32) then 205 else 214) (lv' := [.ref 88, .int x1, .null, .int p9, .null, .null]) (st' := []) hX ok_Model_times rfl ?_
        refine kx_ite (fun c10 => ?_) (fun c10 => ?_)
        · refine kx_go 1 (pc' := 206) (lv' := [.ref 88, .int x1, .null, .int p9, .null, .null]) (st' := [.ref 88]) hX ok_Model_times rfl ?_
          refine kx_getp hX ok_Model_times rfl (q := 96) (nx := 209) rfl ?_
          refine kx_go 1 (pc' := 210) (lv' := [.ref 88, .int x1, .null, .int p9, .null, .null]) (st' := [.int (0 : Int32), .ref 96]) hX ok_Model_times rfl ?_
          refine kx_ialdc hX ok_Model_times (w := 256) (nx := 211) rfl rfl (k := 0) rfl ?_
          refine kx_go 1 (pc' := 215) (lv' := [.ref 88, .int x1, .null, .int p9, .null, .null]) (st' := [.int (p6 96 0)]) hX ok_Model_times rfl ?_
          intro h; have h := Option.some.inj h; subst h
          exact kx_iret hX hE ok_Model_times (nx := 216) rfl rfl ⟨Nat.le_of_ble_eq_true rfl, Nat.le_of_ble_eq_true rfl⟩
        · refine kx_go 1 (pc' := 215) (lv' := [.ref 88, .int x1, .null, .int p9, .null, .null]) (st' := [.int p9]) hX ok_Model_times rfl ?_
          intro h; have h := Option.some.inj h; subst h
          exact kx_iret hX hE ok_Model_times (nx := 216) rfl rfl ⟨Nat.le_of_ble_eq_true rfl, Nat.le_of_ble_eq_true rfl⟩
      · refine kx_go 2 (pc' := 165) (lv' := [.ref 88, .int x1, .int (M_Model_allStrokes p3), .int (1 : Int32), .null, .null]) (st' := []) hX ok_Model_times rfl ?_
        refine kx_weak (lv' := [.ref 88, .int x1, .null, .int (1 : Int32), .null, .null]) (by simp [xsub]) ?_
        refine kx_bind (fun p11 hp11 => ?_)
        refine kx_via (fun hk => s_L_Model_times_165 (G := G) (X := X) (by omega) hX C x1 p6 1000 (1 : Int32) p11 hk hp11) ?_
        refine kx_go 2 (pc' := if x1 = (0 : Int32) then 205 else 214) (lv' := [.ref 88, .int x1, .null, .int p11, .null, .null]) (st' := []) hX ok_Model_times rfl ?_
        refine kx_ite (fun c12 => ?_) (fun c12 => ?_)
        · refine kx_go 1 (pc' := 206) (lv' := [.ref 88, .int x1, .null, .int p11, .null, .null]) (st' := [.ref 88]) hX ok_Model_times rfl ?_
          refine kx_getp hX ok_Model_times rfl (q := 96) (nx := 209) rfl ?_
          refine kx_go 1 (pc' := 210) (lv' := [.ref 88, .int x1, .null, .int p11, .null, .null]) (st' := [.int (0 : Int32), .ref 96]) hX ok_Model_times rfl ?_
          refine kx_ialdc hX ok_Model_times (w := 256) (nx := 211) rfl rfl (k := 0) rfl ?_
          refine kx_go 1 (pc' := 215) (lv' := [.ref 88, .int x1, .null, .int p11, .null, .null]) (st' := [.int (p6 96 0)]) hX ok_Model_times rfl ?_
          intro h; have h := Option.some.inj h; subst h
          exact kx_iret hX hE ok_Model_times (nx := 216) rfl rfl ⟨Nat.le_of_ble_eq_true rfl, Nat.le_of_ble_eq_true rfl⟩
        · refine kx_go 1 (pc' := 215) (lv' := [.ref 88, .int x1, .null, .int p11, .null, .null]) (st' := [.int p11]) hX ok_Model_times rfl ?_
          intro h; have h := Option.some.inj h; subst h
          exact kx_iret hX hE ok_Model_times (nx := 216) rfl rfl ⟨Nat.le_of_ble_eq_true rfl, Nat.le_of_ble_eq_true rfl⟩
    · refine kx_go 2 (pc' := 151) (lv' := [.ref 88, .int x1, .int (M_Model_allStrokes p3), .null, .null, .null]) (st' := [.int (2 : Int32), .ref 88]) hX ok_Model_times rfl ?_
      refine kx_bind (fun p13 hp13 => ?_)
      refine kx_V (r := 88) (as := [.int (2 : Int32)]) (by decide) hX ok_Model_times (nx := 154) rfl l_Model_129 (by decide) rfl (fun _ => s_Model_finds (G := G) (d := 0) (Nat.le_refl _) C p6 (2 : Int32) p13 hp13) (by omega) rfl (rest := []) rfl (Nat.le_of_ble_eq_true rfl) ⟨Nat.le_of_ble_eq_true rfl, Nat.le_of_ble_eq_true rfl⟩ ?_
      show _ → kW G X m_Model_times C p13.2 0 0 154 [.ref 88, .int x1, .int (M_Model_allStrokes p3), .null, .null, .null] [.int p13.1]
      intro h; have h := Option.some.inj h; subst h
      exact kx_iret hX hE ok_Model_times (nx := 155) rfl rfl ⟨Nat.le_of_ble_eq_true rfl, Nat.le_of_ble_eq_true rfl⟩
def L_Model_lamp_35 (x1 : Int32) (x2 : Int32) (I : HI) : Nat → Int32 → Int32 → Option (Int32)
  | 0, _, _ => none
  | f + 1, x3, x4 => if (I 89 0) ≤ x4 then (some x3) else (Option.bind (M_Model_of I x4 (2 : Int32)) fun p2 => if x2 < (M_Model_farOf p2 x1) then (L_Model_lamp_35 x1 x2 I f (x3 ||| (0 : Int32)) (x4 + (1 : Int32))) else (L_Model_lamp_35 x1 x2 I f (x3 ||| ((1 : Int32) <<< (x4 &&& (31 : Int32)))) (x4 + (1 : Int32))))
theorem s_L_Model_lamp_35 {G : xG} {X : xC} {d : Nat} (hd : 2 ≤ d) (hX : xAmb G X m_Model_lamp d 0 0)  (C : HC) (x1 : Int32) (x2 : Int32) (I : HI) : ∀ (f : Nat) (x3 : Int32) (x4 : Int32) (r : Int32), (kW G X m_Model_lamp C I 0 0 78 [.null, .null, .null, .int r, .null] []) → L_Model_lamp_35 x1 x2 I f x3 x4 = some r → kW G X m_Model_lamp C I 0 0 35 [.ref 88, .int x1, .int x2, .int x3, .int x4] [] := by
  intro f
  induction f with
  | zero => intro x3 x4 r hk h; rw [L_Model_lamp_35] at h; cases h
  | succ f ih =>
    intro x3 x4 r hk
    rw [L_Model_lamp_35]
    refine kx_go 2 (pc' := 38) (lv' := [.ref 88, .int x1, .int x2, .int x3, .int x4]) (st' := [.ref 88, .int x4]) hX ok_Model_lamp rfl ?_
    refine kx_getp hX ok_Model_lamp rfl (q := 89) (nx := 41) rfl ?_
    refine kx_go 1 (pc' := 42) (lv' := [.ref 88, .int x1, .int x2, .int x3, .int x4]) (st' := [.int (0 : Int32), .ref 89, .int x4]) hX ok_Model_lamp rfl ?_
    refine kx_ialdc hX ok_Model_lamp (w := 270) (nx := 43) rfl rfl (k := 0) rfl ?_
    refine kx_go 1 (pc' := if (I 89 0) ≤ x4 then 78 else 46) (lv' := [.ref 88, .int x1, .int x2, .int x3, .int x4]) (st' := []) hX ok_Model_lamp rfl ?_
    refine kx_ite (fun c1 => ?_) (fun c1 => ?_)
    · refine kx_weak (lv' := [.null, .null, .null, .int x3, .null]) (by simp [xsub]) ?_
      intro h; have h := Option.some.inj h; subst h
      exact hk
    · refine kx_go 4 (pc' := 51) (lv' := [.ref 88, .int x1, .int x2, .int x3, .int x4]) (st' := [.int (2 : Int32), .int x4, .ref 88, .int x3]) hX ok_Model_lamp rfl ?_
      refine kx_bind (fun p2 hp2 => ?_)
      refine kx_V (r := 88) (as := [.int x4, .int (2 : Int32)]) (by decide) hX ok_Model_lamp (nx := 54) rfl l_Model_155 (by decide) rfl (fun _ => s_Model_of (G := G) (d := 0) (Nat.le_refl _) C I x4 (2 : Int32) p2 hp2) (by omega) rfl (rest := [.int x3]) rfl (Nat.le_of_ble_eq_true rfl) ⟨Nat.le_of_ble_eq_true rfl, Nat.le_of_ble_eq_true rfl⟩ ?_
      show _ → kW G X m_Model_lamp C I 0 0 54 [.ref 88, .int x1, .int x2, .int x3, .int x4] [.int p2, .int x3]
      refine kx_go 1 (pc' := 55) (lv' := [.ref 88, .int x1, .int x2, .int x3, .int x4]) (st' := [.int x1, .int p2, .int x3]) hX ok_Model_lamp rfl ?_
      refine kx_S (as := [.int p2, .int x1]) hX ok_Model_lamp (nx := 58) rfl l_Model_248 (fun _ => s_Model_farOf (G := G) (d := 1) (Nat.le_refl _) C I p2 x1 _ rfl) (by omega) rfl (rest := [.int x3]) rfl (Nat.le_of_ble_eq_true rfl) ⟨Nat.le_of_ble_eq_true rfl, Nat.le_of_ble_eq_true rfl⟩ ?_
      show _ → kW G X m_Model_lamp C I 0 0 58 [.ref 88, .int x1, .int x2, .int x3, .int x4] [.int (M_Model_farOf p2 x1), .int x3]
      refine kx_go 2 (pc' := if x2 < (M_Model_farOf p2 x1) then 69 else 62) (lv' := [.ref 88, .int x1, .int x2, .int x3, .int x4]) (st' := [.int x3]) hX ok_Model_lamp rfl ?_
      refine kx_ite (fun c3 => ?_) (fun c3 => ?_)
      · refine kx_go 5 (pc' := 35) (lv' := [.ref 88, .int x1, .int x2, .int (x3 ||| (0 : Int32)), .int (x4 + (1 : Int32))]) (st' := []) hX ok_Model_lamp rfl ?_
        exact fun h => ih (x3 ||| (0 : Int32)) (x4 + (1 : Int32)) r hk h
      · refine kx_go 8 (pc' := 35) (lv' := [.ref 88, .int x1, .int x2, .int (x3 ||| ((1 : Int32) <<< (x4 &&& (31 : Int32)))), .int (x4 + (1 : Int32))]) (st' := []) hX ok_Model_lamp rfl ?_
        exact fun h => ih (x3 ||| ((1 : Int32) <<< (x4 &&& (31 : Int32)))) (x4 + (1 : Int32)) r hk h
def M_Model_lamp (I : HI) (x1 : Int32) (x2 : Int32) : Option (Int32 × HI) := if (M_Model_in (x1.toInt64) (Int64.ofNat 0) (Int64.ofNat 35)) = (0 : Int32) then (Option.bind (M_Model_finds I (1 : Int32)) fun p2 => some (p2.1, p2.2)) else (if (M_Model_in (x2.toInt64) (Int64.ofNat 0) (Int64.ofNat 10)) = (0 : Int32) then (Option.bind (M_Model_finds I (1 : Int32)) fun p4 => some (p4.1, p4.2)) else (Option.bind (L_Model_lamp_35 x1 x2 I 1000 (0 : Int32) (0 : Int32)) fun p5 => some (p5, I)))
theorem s_Model_lamp {G : xG} {d : Nat} (hd : 2 ≤ d) (C : HC) (I : HI) (x1 : Int32) (x2 : Int32)  (r : Int32 × HI) : M_Model_lamp I x1 x2 = some r → kM G d m_Model_lamp [.ref 88, .int x1, .int x2] C I 0 0 (some (.int r.1)) C r.2 := by
  unfold M_Model_lamp
  refine kM.of (by decide +kernel) (Nat.le_of_ble_eq_true rfl) (lv := [.ref 88, .int x1, .int x2, .null, .null]) rfl (fun X hX hE => ?_)
  refine kx_go 4 (pc' := 6) (lv' := [.ref 88, .int x1, .int x2, .null, .null]) (st' := [.long (Int64.ofNat 35), .long (Int64.ofNat 0), .long (x1.toInt64)]) hX ok_Model_lamp rfl ?_
  refine kx_S (as := [.long (x1.toInt64), .long (Int64.ofNat 0), .long (Int64.ofNat 35)]) hX ok_Model_lamp (nx := 9) rfl l_Model_66 (fun _ => s_Model_in (G := G) (d := 0) (Nat.le_refl _) C I (x1.toInt64) (Int64.ofNat 0) (Int64.ofNat 35) _ rfl) (by omega) rfl (rest := []) rfl (Nat.le_of_ble_eq_true rfl) ⟨Nat.le_of_ble_eq_true rfl, Nat.le_of_ble_eq_true rfl⟩ ?_
  show _ → kW G X m_Model_lamp C I 0 0 9 [.ref 88, .int x1, .int x2, .null, .null] [.int (M_Model_in (x1.toInt64) (Int64.ofNat 0) (Int64.ofNat 35))]
  refine kx_go 1 (pc' := if (M_Model_in (x1.toInt64) (Int64.ofNat 0) (Int64.ofNat 35)) = (0 : Int32) then 24 else 12) (lv' := [.ref 88, .int x1, .int x2, .null, .null]) (st' := []) hX ok_Model_lamp rfl ?_
  refine kx_ite (fun c1 => ?_) (fun c1 => ?_)
  · refine kx_go 2 (pc' := 26) (lv' := [.ref 88, .int x1, .int x2, .null, .null]) (st' := [.int (1 : Int32), .ref 88]) hX ok_Model_lamp rfl ?_
    refine kx_bind (fun p2 hp2 => ?_)
    refine kx_V (r := 88) (as := [.int (1 : Int32)]) (by decide) hX ok_Model_lamp (nx := 29) rfl l_Model_129 (by decide) rfl (fun _ => s_Model_finds (G := G) (d := 0) (Nat.le_refl _) C I (1 : Int32) p2 hp2) (by omega) rfl (rest := []) rfl (Nat.le_of_ble_eq_true rfl) ⟨Nat.le_of_ble_eq_true rfl, Nat.le_of_ble_eq_true rfl⟩ ?_
    show _ → kW G X m_Model_lamp C p2.2 0 0 29 [.ref 88, .int x1, .int x2, .null, .null] [.int p2.1]
    intro h; have h := Option.some.inj h; subst h
    exact kx_iret hX hE ok_Model_lamp (nx := 30) rfl rfl ⟨Nat.le_of_ble_eq_true rfl, Nat.le_of_ble_eq_true rfl⟩
  · refine kx_go 4 (pc' := 18) (lv' := [.ref 88, .int x1, .int x2, .null, .null]) (st' := [.long (Int64.ofNat 10), .long (Int64.ofNat 0), .long (x2.toInt64)]) hX ok_Model_lamp rfl ?_
    refine kx_S (as := [.long (x2.toInt64), .long (Int64.ofNat 0), .long (Int64.ofNat 10)]) hX ok_Model_lamp (nx := 21) rfl l_Model_66 (fun _ => s_Model_in (G := G) (d := 0) (Nat.le_refl _) C I (x2.toInt64) (Int64.ofNat 0) (Int64.ofNat 10) _ rfl) (by omega) rfl (rest := []) rfl (Nat.le_of_ble_eq_true rfl) ⟨Nat.le_of_ble_eq_true rfl, Nat.le_of_ble_eq_true rfl⟩ ?_
    show _ → kW G X m_Model_lamp C I 0 0 21 [.ref 88, .int x1, .int x2, .null, .null] [.int (M_Model_in (x2.toInt64) (Int64.ofNat 0) (Int64.ofNat 10))]
    refine kx_go 1 (pc' := if (M_Model_in (x2.toInt64) (Int64.ofNat 0) (Int64.ofNat 10)) = (0 : Int32) then 24 else 30) (lv' := [.ref 88, .int x1, .int x2, .null, .null]) (st' := []) hX ok_Model_lamp rfl ?_
    refine kx_ite (fun c3 => ?_) (fun c3 => ?_)
    · refine kx_go 2 (pc' := 26) (lv' := [.ref 88, .int x1, .int x2, .null, .null]) (st' := [.int (1 : Int32), .ref 88]) hX ok_Model_lamp rfl ?_
      refine kx_bind (fun p4 hp4 => ?_)
      refine kx_V (r := 88) (as := [.int (1 : Int32)]) (by decide) hX ok_Model_lamp (nx := 29) rfl l_Model_129 (by decide) rfl (fun _ => s_Model_finds (G := G) (d := 0) (Nat.le_refl _) C I (1 : Int32) p4 hp4) (by omega) rfl (rest := []) rfl (Nat.le_of_ble_eq_true rfl) ⟨Nat.le_of_ble_eq_true rfl, Nat.le_of_ble_eq_true rfl⟩ ?_
      show _ → kW G X m_Model_lamp C p4.2 0 0 29 [.ref 88, .int x1, .int x2, .null, .null] [.int p4.1]
      intro h; have h := Option.some.inj h; subst h
      exact kx_iret hX hE ok_Model_lamp (nx := 30) rfl rfl ⟨Nat.le_of_ble_eq_true rfl, Nat.le_of_ble_eq_true rfl⟩
    · refine kx_go 4 (pc' := 35) (lv' := [.ref 88, .int x1, .int x2, .int (0 : Int32), .int (0 : Int32)]) (st' := []) hX ok_Model_lamp rfl ?_
      refine kx_bind (fun p5 hp5 => ?_)
      refine kx_via (fun hk => s_L_Model_lamp_35 (G := G) (X := X) (by omega) hX C x1 x2 I 1000 (0 : Int32) (0 : Int32) p5 hk hp5) ?_
      refine kx_go 1 (pc' := 79) (lv' := [.null, .null, .null, .int p5, .null]) (st' := [.int p5]) hX ok_Model_lamp rfl ?_
      intro h; have h := Option.some.inj h; subst h
      exact kx_iret hX hE ok_Model_lamp (nx := 80) rfl rfl ⟨Nat.le_of_ble_eq_true rfl, Nat.le_of_ble_eq_true rfl⟩
def L_Model_isHand_15 (x1 : Int32) (x3 : Int32) (x4 : Int32) (I : HI) : Nat → Int32 → Int32 → Int32 → Option (Int32 × Int32)
  | 0, _, _, _ => none
  | f + 1, x5, x6, x7 => if (I 89 0) ≤ x7 then (some (x5, x6)) else (if ((x1 >>> (x7 &&& (31 : Int32))) &&& (1 : Int32)) = (1 : Int32) then (Option.bind (M_Model_of I x7 (3 : Int32)) fun p3 => if x5 ≤ p3 then (if p3 ≤ x6 then (L_Model_isHand_15 x1 x3 x4 I f x5 x6 (x7 + (1 : Int32))) else (L_Model_isHand_15 x1 x3 x4 I f x5 p3 (x7 + (1 : Int32)))) else (if p3 ≤ x6 then (L_Model_isHand_15 x1 x3 x4 I f p3 x6 (x7 + (1 : Int32))) else (L_Model_isHand_15 x1 x3 x4 I f p3 p3 (x7 + (1 : Int32))))) else (L_Model_isHand_15 x1 x3 x4 I f x5 x6 (x7 + (1 : Int32))))
theorem s_L_Model_isHand_15 {G : xG} {X : xC} {d : Nat} (hd : 1 ≤ d) (hX : xAmb G X m_Model_isHand d 0 0)  (C : HC) (x1 : Int32) (x3 : Int32) (x4 : Int32) (I : HI) : ∀ (f : Nat) (x5 : Int32) (x6 : Int32) (x7 : Int32) (r : Int32 × Int32), (kW G X m_Model_isHand C I 0 0 83 [.null, .int x1, .null, .int x3, .int x4, .int r.1, .int r.2, .null, .null] []) → L_Model_isHand_15 x1 x3 x4 I f x5 x6 x7 = some r → kW G X m_Model_isHand C I 0 0 15 [.ref 88, .int x1, .null, .int x3, .int x4, .int x5, .int x6, .int x7, .null] [] := by
  intro f
  induction f with
  | zero => intro x5 x6 x7 r hk h; rw [L_Model_isHand_15] at h; cases h
  | succ f ih =>
    intro x5 x6 x7 r hk
    rw [L_Model_isHand_15]
    refine kx_go 2 (pc' := 18) (lv' := [.ref 88, .int x1, .null, .int x3, .int x4, .int x5, .int x6, .int x7, .null]) (st' := [.ref 88, .int x7]) hX ok_Model_isHand rfl ?_
    refine kx_getp hX ok_Model_isHand rfl (q := 89) (nx := 21) rfl ?_
    refine kx_go 1 (pc' := 22) (lv' := [.ref 88, .int x1, .null, .int x3, .int x4, .int x5, .int x6, .int x7, .null]) (st' := [.int (0 : Int32), .ref 89, .int x7]) hX ok_Model_isHand rfl ?_
    refine kx_ialdc hX ok_Model_isHand (w := 270) (nx := 23) rfl rfl (k := 0) rfl ?_
    refine kx_go 1 (pc' := if (I 89 0) ≤ x7 then 83 else 26) (lv' := [.ref 88, .int x1, .null, .int x3, .int x4, .int x5, .int x6, .int x7, .null]) (st' := []) hX ok_Model_isHand rfl ?_
    refine kx_ite (fun c1 => ?_) (fun c1 => ?_)
    · refine kx_weak (lv' := [.null, .int x1, .null, .int x3, .int x4, .int x5, .int x6, .null, .null]) (by simp [xsub]) ?_
      intro h; have h := Option.some.inj h; subst h
      exact hk
    · refine kx_go 7 (pc' := if ((x1 >>> (x7 &&& (31 : Int32))) &&& (1 : Int32)) = (1 : Int32) then 36 else 77) (lv' := [.ref 88, .int x1, .null, .int x3, .int x4, .int x5, .int x6, .int x7, .null]) (st' := []) hX ok_Model_isHand rfl ?_
      refine kx_ite (fun c2 => ?_) (fun c2 => ?_)
      · refine kx_go 3 (pc' := 40) (lv' := [.ref 88, .int x1, .null, .int x3, .int x4, .int x5, .int x6, .int x7, .null]) (st' := [.int (3 : Int32), .int x7, .ref 88]) hX ok_Model_isHand rfl ?_
        refine kx_bind (fun p3 hp3 => ?_)
        refine kx_V (r := 88) (as := [.int x7, .int (3 : Int32)]) (by decide) hX ok_Model_isHand (nx := 43) rfl l_Model_155 (by decide) rfl (fun _ => s_Model_of (G := G) (d := 0) (Nat.le_refl _) C I x7 (3 : Int32) p3 hp3) (by omega) rfl (rest := []) rfl (Nat.le_of_ble_eq_true rfl) ⟨Nat.le_of_ble_eq_true rfl, Nat.le_of_ble_eq_true rfl⟩ ?_
        show _ → kW G X m_Model_isHand C I 0 0 43 [.ref 88, .int x1, .null, .int x3, .int x4, .int x5, .int x6, .int x7, .null] [.int p3]
        refine kx_go 4 (pc' := if x5 ≤ p3 then 57 else 52) (lv' := [.ref 88, .int x1, .null, .int x3, .int x4, .int x5, .int x6, .int x7, .int p3]) (st' := []) hX ok_Model_isHand rfl ?_
        refine kx_ite (fun c4 => ?_) (fun c4 => ?_)
        · refine kx_go 5 (pc' := if p3 ≤ x6 then 73 else 68) (lv' := [.ref 88, .int x1, .null, .int x3, .int x4, .int x5, .int x6, .int x7, .int p3]) (st' := []) hX ok_Model_isHand rfl ?_
          refine kx_ite (fun c5 => ?_) (fun c5 => ?_)
          · refine kx_go 4 (pc' := 15) (lv' := [.ref 88, .int x1, .null, .int x3, .int x4, .int x5, .int x6, .int (x7 + (1 : Int32)), .int p3]) (st' := []) hX ok_Model_isHand rfl ?_
            refine kx_weak (lv' := [.ref 88, .int x1, .null, .int x3, .int x4, .int x5, .int x6, .int (x7 + (1 : Int32)), .null]) (by simp [xsub]) ?_
            exact fun h => ih x5 x6 (x7 + (1 : Int32)) r hk h
          · refine kx_go 5 (pc' := 15) (lv' := [.ref 88, .int x1, .null, .int x3, .int x4, .int x5, .int p3, .int (x7 + (1 : Int32)), .int p3]) (st' := []) hX ok_Model_isHand rfl ?_
            refine kx_weak (lv' := [.ref 88, .int x1, .null, .int x3, .int x4, .int x5, .int p3, .int (x7 + (1 : Int32)), .null]) (by simp [xsub]) ?_
            exact fun h => ih x5 p3 (x7 + (1 : Int32)) r hk h
        · refine kx_go 6 (pc' := if p3 ≤ x6 then 73 else 68) (lv' := [.ref 88, .int x1, .null, .int x3, .int x4, .int p3, .int x6, .int x7, .int p3]) (st' := []) hX ok_Model_isHand rfl ?_
          refine kx_ite (fun c6 => ?_) (fun c6 => ?_)
          · refine kx_go 4 (pc' := 15) (lv' := [.ref 88, .int x1, .null, .int x3, .int x4, .int p3, .int x6, .int (x7 + (1 : Int32)), .int p3]) (st' := []) hX ok_Model_isHand rfl ?_
            refine kx_weak (lv' := [.ref 88, .int x1, .null, .int x3, .int x4, .int p3, .int x6, .int (x7 + (1 : Int32)), .null]) (by simp [xsub]) ?_
            exact fun h => ih p3 x6 (x7 + (1 : Int32)) r hk h
          · refine kx_go 5 (pc' := 15) (lv' := [.ref 88, .int x1, .null, .int x3, .int x4, .int p3, .int p3, .int (x7 + (1 : Int32)), .int p3]) (st' := []) hX ok_Model_isHand rfl ?_
            refine kx_weak (lv' := [.ref 88, .int x1, .null, .int x3, .int x4, .int p3, .int p3, .int (x7 + (1 : Int32)), .null]) (by simp [xsub]) ?_
            exact fun h => ih p3 p3 (x7 + (1 : Int32)) r hk h
      · refine kx_go 2 (pc' := 15) (lv' := [.ref 88, .int x1, .null, .int x3, .int x4, .int x5, .int x6, .int (x7 + (1 : Int32)), .null]) (st' := []) hX ok_Model_isHand rfl ?_
        exact fun h => ih x5 x6 (x7 + (1 : Int32)) r hk h
def M_Model_isHand (I : HI) (x1 : Int32) (x2 : Int32) : Option (Int32) := Option.bind (L_Model_isHand_15 x1 x2 x2 I 1000 (99 : Int32) (0 : Int32) (0 : Int32)) fun p1 => if x1 = (0 : Int32) then (some (1 : Int32)) else (if (9 : Int32) < (p1.2 - p1.1) then (some (0 : Int32)) else (if (9 : Int32) < (p1.2 - x2) then (some (0 : Int32)) else (if (9 : Int32) < (x2 - p1.1) then (some (0 : Int32)) else (some (1 : Int32)))))
theorem s_Model_isHand {G : xG} {d : Nat} (hd : 1 ≤ d) (C : HC) (I : HI) (x1 : Int32) (x2 : Int32)  (r : Int32) : M_Model_isHand I x1 x2 = some r → kM G d m_Model_isHand [.ref 88, .int x1, .int x2] C I 0 0 (some (.int r)) C I := by
  unfold M_Model_isHand
  refine kM.of (by decide +kernel) (Nat.le_of_ble_eq_true rfl) (lv := [.ref 88, .int x1, .int x2, .null, .null, .null, .null, .null, .null]) rfl (fun X hX hE => ?_)
  refine kx_go 10 (pc' := 15) (lv' := [.ref 88, .int x1, .int x2, .int x2, .int x2, .int (99 : Int32), .int (0 : Int32), .int (0 : Int32), .null]) (st' := []) hX ok_Model_isHand rfl ?_
  refine kx_weak (lv' := [.ref 88, .int x1, .null, .int x2, .int x2, .int (99 : Int32), .int (0 : Int32), .int (0 : Int32), .null]) (by simp [xsub]) ?_
  refine kx_bind (fun p1 hp1 => ?_)
  refine kx_via (fun hk => s_L_Model_isHand_15 (G := G) (X := X) (by omega) hX C x1 x2 x2 I 1000 (99 : Int32) (0 : Int32) (0 : Int32) p1 hk hp1) ?_
  refine kx_go 2 (pc' := if x1 = (0 : Int32) then 116 else 87) (lv' := [.null, .int x1, .null, .int x2, .int x2, .int p1.1, .int p1.2, .null, .null]) (st' := []) hX ok_Model_isHand rfl ?_
  refine kx_ite (fun c2 => ?_) (fun c2 => ?_)
  · refine kx_go 2 (pc' := 121) (lv' := [.null, .int x1, .null, .int x2, .int x2, .int p1.1, .int p1.2, .null, .null]) (st' := [.int (1 : Int32)]) hX ok_Model_isHand rfl ?_
    intro h; have h := Option.some.inj h; subst h
    exact kx_zret hX hE ok_Model_isHand (nx := 122) rfl rfl (Or.inr rfl) ⟨Nat.le_of_ble_eq_true rfl, Nat.le_of_ble_eq_true rfl⟩
  · refine kx_go 5 (pc' := if (9 : Int32) < (p1.2 - p1.1) then 120 else 97) (lv' := [.null, .int x1, .null, .int x2, .int x2, .int p1.1, .int p1.2, .null, .null]) (st' := []) hX ok_Model_isHand rfl ?_
    refine kx_ite (fun c3 => ?_) (fun c3 => ?_)
    · refine kx_go 1 (pc' := 121) (lv' := [.null, .int x1, .null, .int x2, .int x2, .int p1.1, .int p1.2, .null, .null]) (st' := [.int (0 : Int32)]) hX ok_Model_isHand rfl ?_
      intro h; have h := Option.some.inj h; subst h
      exact kx_zret hX hE ok_Model_isHand (nx := 122) rfl rfl (Or.inl rfl) ⟨Nat.le_of_ble_eq_true rfl, Nat.le_of_ble_eq_true rfl⟩
    · refine kx_go 5 (pc' := if (9 : Int32) < (p1.2 - x2) then 120 else 106) (lv' := [.null, .int x1, .null, .int x2, .int x2, .int p1.1, .int p1.2, .null, .null]) (st' := []) hX ok_Model_isHand rfl ?_
      refine kx_ite (fun c4 => ?_) (fun c4 => ?_)
      · refine kx_go 1 (pc' := 121) (lv' := [.null, .int x1, .null, .int x2, .int x2, .int p1.1, .int p1.2, .null, .null]) (st' := [.int (0 : Int32)]) hX ok_Model_isHand rfl ?_
        intro h; have h := Option.some.inj h; subst h
        exact kx_zret hX hE ok_Model_isHand (nx := 122) rfl rfl (Or.inl rfl) ⟨Nat.le_of_ble_eq_true rfl, Nat.le_of_ble_eq_true rfl⟩
      · refine kx_go 5 (pc' := if (9 : Int32) < (x2 - p1.1) then 120 else 116) (lv' := [.null, .int x1, .null, .int x2, .int x2, .int p1.1, .int p1.2, .null, .null]) (st' := []) hX ok_Model_isHand rfl ?_
        refine kx_ite (fun c5 => ?_) (fun c5 => ?_)
        · refine kx_go 1 (pc' := 121) (lv' := [.null, .int x1, .null, .int x2, .int x2, .int p1.1, .int p1.2, .null, .null]) (st' := [.int (0 : Int32)]) hX ok_Model_isHand rfl ?_
          intro h; have h := Option.some.inj h; subst h
          exact kx_zret hX hE ok_Model_isHand (nx := 122) rfl rfl (Or.inl rfl) ⟨Nat.le_of_ble_eq_true rfl, Nat.le_of_ble_eq_true rfl⟩
        · refine kx_go 2 (pc' := 121) (lv' := [.null, .int x1, .null, .int x2, .int x2, .int p1.1, .int p1.2, .null, .null]) (st' := [.int (1 : Int32)]) hX ok_Model_isHand rfl ?_
          intro h; have h := Option.some.inj h; subst h
          exact kx_zret hX hE ok_Model_isHand (nx := 122) rfl rfl (Or.inr rfl) ⟨Nat.le_of_ble_eq_true rfl, Nat.le_of_ble_eq_true rfl⟩
def L_Model_ones_4 (x0 : Int32) (I : HI) : Nat → Int32 → Int32 → Option (Int32)
  | 0, _, _ => none
  | f + 1, x1, x2 => if (8 : Int32) ≤ x2 then (some x1) else (L_Model_ones_4 x0 I f (x1 + ((x0 >>> (x2 &&& (31 : Int32))) &&& (1 : Int32))) (x2 + (1 : Int32)))
theorem s_L_Model_ones_4 {G : xG} {X : xC} {d : Nat} (hd : 0 ≤ d) (hX : xAmb G X m_Model_ones d 0 0)  (C : HC) (x0 : Int32) (I : HI) : ∀ (f : Nat) (x1 : Int32) (x2 : Int32) (r : Int32), (kW G X m_Model_ones C I 0 0 24 [.null, .int r, .null] []) → L_Model_ones_4 x0 I f x1 x2 = some r → kW G X m_Model_ones C I 0 0 4 [.int x0, .int x1, .int x2] [] := by
  intro f
  induction f with
  | zero => intro x1 x2 r hk h; rw [L_Model_ones_4] at h; cases h
  | succ f ih =>
    intro x1 x2 r hk
    rw [L_Model_ones_4]
    refine kx_go 3 (pc' := if (8 : Int32) ≤ x2 then 24 else 10) (lv' := [.int x0, .int x1, .int x2]) (st' := []) hX ok_Model_ones rfl ?_
    refine kx_ite (fun c1 => ?_) (fun c1 => ?_)
    · refine kx_weak (lv' := [.null, .int x1, .null]) (by simp [xsub]) ?_
      intro h; have h := Option.some.inj h; subst h
      exact hk
    · refine kx_go 10 (pc' := 4) (lv' := [.int x0, .int (x1 + ((x0 >>> (x2 &&& (31 : Int32))) &&& (1 : Int32))), .int (x2 + (1 : Int32))]) (st' := []) hX ok_Model_ones rfl ?_
      exact fun h => ih (x1 + ((x0 >>> (x2 &&& (31 : Int32))) &&& (1 : Int32))) (x2 + (1 : Int32)) r hk h
def M_Model_ones (I : HI) (x0 : Int32) : Option (Int32) := Option.bind (L_Model_ones_4 x0 I 1000 (0 : Int32) (0 : Int32)) fun p1 => some p1
theorem s_Model_ones {G : xG} {d : Nat} (hd : 0 ≤ d) (C : HC) (I : HI) (x0 : Int32)  (r : Int32) : M_Model_ones I x0 = some r → kM G d m_Model_ones [.int x0] C I 0 0 (some (.int r)) C I := by
  unfold M_Model_ones
  refine kM.of (by decide +kernel) (Nat.le_of_ble_eq_true rfl) (lv := [.int x0, .null, .null]) rfl (fun X hX hE => ?_)
  refine kx_go 4 (pc' := 4) (lv' := [.int x0, .int (0 : Int32), .int (0 : Int32)]) (st' := []) hX ok_Model_ones rfl ?_
  refine kx_bind (fun p1 hp1 => ?_)
  refine kx_via (fun hk => s_L_Model_ones_4 (G := G) (X := X) (by omega) hX C x0 I 1000 (0 : Int32) (0 : Int32) p1 hk hp1) ?_
  refine kx_go 1 (pc' := 25) (lv' := [.null, .int p1, .null]) (st' := [.int p1]) hX ok_Model_ones rfl ?_
  intro h; have h := Option.some.inj h; subst h
  exact kx_iret hX hE ok_Model_ones (nx := 26) rfl rfl ⟨Nat.le_of_ble_eq_true rfl, Nat.le_of_ble_eq_true rfl⟩
def L_Model_hand_22 (x1 : Int32) (I : HI) : Nat → Int32 → Int32 → Option (Int32)
  | 0, _, _ => none
  | f + 1, x2, x3 => if (M_Model_allStrokes I) < x3 then (some x2) else (Option.bind (M_Model_isHand I x3 x1) fun p2 => if p2 = (0 : Int32) then (L_Model_hand_22 x1 I f x2 (x3 + (1 : Int32))) else (Option.bind (M_Model_ones I x3) fun p4 => Option.bind (M_Model_ones I x2) fun p5 => if p4 ≤ p5 then (L_Model_hand_22 x1 I f x2 (x3 + (1 : Int32))) else (L_Model_hand_22 x1 I f x3 (x3 + (1 : Int32)))))
theorem s_L_Model_hand_22 {G : xG} {X : xC} {d : Nat} (hd : 2 ≤ d) (hX : xAmb G X m_Model_hand d 0 0)  (C : HC) (x1 : Int32) (I : HI) : ∀ (f : Nat) (x2 : Int32) (x3 : Int32) (r : Int32), (kW G X m_Model_hand C I 0 0 62 [.null, .null, .int r, .null] []) → L_Model_hand_22 x1 I f x2 x3 = some r → kW G X m_Model_hand C I 0 0 22 [.ref 88, .int x1, .int x2, .int x3] [] := by
  intro f
  induction f with
  | zero => intro x2 x3 r hk h; rw [L_Model_hand_22] at h; cases h
  | succ f ih =>
    intro x2 x3 r hk
    rw [L_Model_hand_22]
    refine kx_go 2 (pc' := 24) (lv' := [.ref 88, .int x1, .int x2, .int x3]) (st' := [.ref 88, .int x3]) hX ok_Model_hand rfl ?_
    refine kx_V (r := 88) (as := []) (by decide) hX ok_Model_hand (nx := 27) rfl l_Model_211 (by decide) rfl (fun _ => s_Model_allStrokes (G := G) (d := 0) (Nat.le_refl _) C I  _ rfl) (by omega) rfl (rest := [.int x3]) rfl (Nat.le_of_ble_eq_true rfl) ⟨Nat.le_of_ble_eq_true rfl, Nat.le_of_ble_eq_true rfl⟩ ?_
    show _ → kW G X m_Model_hand C I 0 0 27 [.ref 88, .int x1, .int x2, .int x3] [.int (M_Model_allStrokes I), .int x3]
    refine kx_go 1 (pc' := if (M_Model_allStrokes I) < x3 then 62 else 30) (lv' := [.ref 88, .int x1, .int x2, .int x3]) (st' := []) hX ok_Model_hand rfl ?_
    refine kx_ite (fun c1 => ?_) (fun c1 => ?_)
    · refine kx_weak (lv' := [.null, .null, .int x2, .null]) (by simp [xsub]) ?_
      intro h; have h := Option.some.inj h; subst h
      exact hk
    · refine kx_go 3 (pc' := 33) (lv' := [.ref 88, .int x1, .int x2, .int x3]) (st' := [.int x1, .int x3, .ref 88]) hX ok_Model_hand rfl ?_
      refine kx_bind (fun p2 hp2 => ?_)
      refine kx_V (r := 88) (as := [.int x3, .int x1]) (by decide) hX ok_Model_hand (nx := 36) rfl l_Model_265 (by decide) rfl (fun _ => s_Model_isHand (G := G) (d := 1) (Nat.le_refl _) C I x3 x1 p2 hp2) (by omega) rfl (rest := []) rfl (Nat.le_of_ble_eq_true rfl) ⟨Nat.le_of_ble_eq_true rfl, Nat.le_of_ble_eq_true rfl⟩ ?_
      show _ → kW G X m_Model_hand C I 0 0 36 [.ref 88, .int x1, .int x2, .int x3] [.int p2]
      refine kx_go 1 (pc' := if p2 = (0 : Int32) then 54 else 39) (lv' := [.ref 88, .int x1, .int x2, .int x3]) (st' := []) hX ok_Model_hand rfl ?_
      refine kx_ite (fun c3 => ?_) (fun c3 => ?_)
      · refine kx_go 4 (pc' := 22) (lv' := [.ref 88, .int x1, .int x2, .int (x3 + (1 : Int32))]) (st' := []) hX ok_Model_hand rfl ?_
        exact fun h => ih x2 (x3 + (1 : Int32)) r hk h
      · refine kx_go 1 (pc' := 40) (lv' := [.ref 88, .int x1, .int x2, .int x3]) (st' := [.int x3]) hX ok_Model_hand rfl ?_
        refine kx_bind (fun p4 hp4 => ?_)
        refine kx_S (as := [.int x3]) hX ok_Model_hand (nx := 43) rfl l_Model_268 (fun _ => s_Model_ones (G := G) (d := 0) (Nat.le_refl _) C I x3 p4 hp4) (by omega) rfl (rest := []) rfl (Nat.le_of_ble_eq_true rfl) ⟨Nat.le_of_ble_eq_true rfl, Nat.le_of_ble_eq_true rfl⟩ ?_
        show _ → kW G X m_Model_hand C I 0 0 43 [.ref 88, .int x1, .int x2, .int x3] [.int p4]
        refine kx_go 1 (pc' := 44) (lv' := [.ref 88, .int x1, .int x2, .int x3]) (st' := [.int x2, .int p4]) hX ok_Model_hand rfl ?_
        refine kx_bind (fun p5 hp5 => ?_)
        refine kx_S (as := [.int x2]) hX ok_Model_hand (nx := 47) rfl l_Model_268 (fun _ => s_Model_ones (G := G) (d := 0) (Nat.le_refl _) C I x2 p5 hp5) (by omega) rfl (rest := [.int p4]) rfl (Nat.le_of_ble_eq_true rfl) ⟨Nat.le_of_ble_eq_true rfl, Nat.le_of_ble_eq_true rfl⟩ ?_
        show _ → kW G X m_Model_hand C I 0 0 47 [.ref 88, .int x1, .int x2, .int x3] [.int p5, .int p4]
        refine kx_go 1 (pc' := if p4 ≤ p5 then 54 else 50) (lv' := [.ref 88, .int x1, .int x2, .int x3]) (st' := []) hX ok_Model_hand rfl ?_
        refine kx_ite (fun c6 => ?_) (fun c6 => ?_)
        · refine kx_go 4 (pc' := 22) (lv' := [.ref 88, .int x1, .int x2, .int (x3 + (1 : Int32))]) (st' := []) hX ok_Model_hand rfl ?_
          exact fun h => ih x2 (x3 + (1 : Int32)) r hk h
        · refine kx_go 5 (pc' := 22) (lv' := [.ref 88, .int x1, .int x3, .int (x3 + (1 : Int32))]) (st' := []) hX ok_Model_hand rfl ?_
          exact fun h => ih x3 (x3 + (1 : Int32)) r hk h
def M_Model_hand (I : HI) (x1 : Int32) : Option (Int32 × HI) := if (M_Model_in (x1.toInt64) (Int64.ofNat 0) (Int64.ofNat 99)) = (0 : Int32) then (Option.bind (M_Model_finds I (1 : Int32)) fun p2 => some (p2.1, p2.2)) else (Option.bind (L_Model_hand_22 x1 I 1000 (0 : Int32) (1 : Int32)) fun p3 => some (p3, I))
theorem s_Model_hand {G : xG} {d : Nat} (hd : 2 ≤ d) (C : HC) (I : HI) (x1 : Int32)  (r : Int32 × HI) : M_Model_hand I x1 = some r → kM G d m_Model_hand [.ref 88, .int x1] C I 0 0 (some (.int r.1)) C r.2 := by
  unfold M_Model_hand
  refine kM.of (by decide +kernel) (Nat.le_of_ble_eq_true rfl) (lv := [.ref 88, .int x1, .null, .null]) rfl (fun X hX hE => ?_)
  refine kx_go 4 (pc' := 6) (lv' := [.ref 88, .int x1, .null, .null]) (st' := [.long (Int64.ofNat 99), .long (Int64.ofNat 0), .long (x1.toInt64)]) hX ok_Model_hand rfl ?_
  refine kx_S (as := [.long (x1.toInt64), .long (Int64.ofNat 0), .long (Int64.ofNat 99)]) hX ok_Model_hand (nx := 9) rfl l_Model_66 (fun _ => s_Model_in (G := G) (d := 0) (Nat.le_refl _) C I (x1.toInt64) (Int64.ofNat 0) (Int64.ofNat 99) _ rfl) (by omega) rfl (rest := []) rfl (Nat.le_of_ble_eq_true rfl) ⟨Nat.le_of_ble_eq_true rfl, Nat.le_of_ble_eq_true rfl⟩ ?_
  show _ → kW G X m_Model_hand C I 0 0 9 [.ref 88, .int x1, .null, .null] [.int (M_Model_in (x1.toInt64) (Int64.ofNat 0) (Int64.ofNat 99))]
  refine kx_go 1 (pc' := if (M_Model_in (x1.toInt64) (Int64.ofNat 0) (Int64.ofNat 99)) = (0 : Int32) then 12 else 18) (lv' := [.ref 88, .int x1, .null, .null]) (st' := []) hX ok_Model_hand rfl ?_
  refine kx_ite (fun c1 => ?_) (fun c1 => ?_)
  · refine kx_go 2 (pc' := 14) (lv' := [.ref 88, .int x1, .null, .null]) (st' := [.int (1 : Int32), .ref 88]) hX ok_Model_hand rfl ?_
    refine kx_bind (fun p2 hp2 => ?_)
    refine kx_V (r := 88) (as := [.int (1 : Int32)]) (by decide) hX ok_Model_hand (nx := 17) rfl l_Model_129 (by decide) rfl (fun _ => s_Model_finds (G := G) (d := 0) (Nat.le_refl _) C I (1 : Int32) p2 hp2) (by omega) rfl (rest := []) rfl (Nat.le_of_ble_eq_true rfl) ⟨Nat.le_of_ble_eq_true rfl, Nat.le_of_ble_eq_true rfl⟩ ?_
    show _ → kW G X m_Model_hand C p2.2 0 0 17 [.ref 88, .int x1, .null, .null] [.int p2.1]
    intro h; have h := Option.some.inj h; subst h
    exact kx_iret hX hE ok_Model_hand (nx := 18) rfl rfl ⟨Nat.le_of_ble_eq_true rfl, Nat.le_of_ble_eq_true rfl⟩
  · refine kx_go 4 (pc' := 22) (lv' := [.ref 88, .int x1, .int (0 : Int32), .int (1 : Int32)]) (st' := []) hX ok_Model_hand rfl ?_
    refine kx_bind (fun p3 hp3 => ?_)
    refine kx_via (fun hk => s_L_Model_hand_22 (G := G) (X := X) (by omega) hX C x1 I 1000 (0 : Int32) (1 : Int32) p3 hk hp3) ?_
    refine kx_go 1 (pc' := 63) (lv' := [.null, .null, .int p3, .null]) (st' := [.int p3]) hX ok_Model_hand rfl ?_
    intro h; have h := Option.some.inj h; subst h
    exact kx_iret hX hE ok_Model_hand (nx := 64) rfl rfl ⟨Nat.le_of_ble_eq_true rfl, Nat.le_of_ble_eq_true rfl⟩
def M_Model_drawn (I : HI) : Int32 × HI := lt (xu I 89 2 (((I 89 2) * (1103515245 : Int32)) + (12345 : Int32))) fun J1 => ((ush (J1 89 2) (8 : Int32)), J1)
theorem s_Model_drawn {G : xG} {d : Nat} (hd : 0 ≤ d) (C : HC) (I : HI)   (r : Int32 × HI) : M_Model_drawn I = r → kM G d m_Model_drawn [.ref 88] C I 0 0 (some (.int r.1)) C r.2 := by
  unfold M_Model_drawn
  refine kM.of (by decide +kernel) (Nat.le_of_ble_eq_true rfl) (lv := [.ref 88]) rfl (fun X hX hE => ?_)
  refine kx_go 1 (pc' := 1) (lv' := [.ref 88]) (st' := [.ref 88]) hX ok_Model_drawn rfl ?_
  refine kx_getp hX ok_Model_drawn rfl (q := 89) (nx := 4) rfl ?_
  refine kx_go 2 (pc' := 6) (lv' := [.ref 88]) (st' := [.ref 88, .int (2 : Int32), .ref 89]) hX ok_Model_drawn rfl ?_
  refine kx_getp hX ok_Model_drawn rfl (q := 89) (nx := 9) rfl ?_
  refine kx_go 1 (pc' := 10) (lv' := [.ref 88]) (st' := [.int (2 : Int32), .ref 89, .int (2 : Int32), .ref 89]) hX ok_Model_drawn rfl ?_
  refine kx_ialdc hX ok_Model_drawn (w := 270) (nx := 11) rfl rfl (k := 2) rfl ?_
  refine kx_go 4 (pc' := 19) (lv' := [.ref 88]) (st' := [.int (((I 89 2) * (1103515245 : Int32)) + (12345 : Int32)), .int (2 : Int32), .ref 89]) hX ok_Model_drawn rfl ?_
  refine kx_iastc hX ok_Model_drawn (w := 270) (nx := 20) rfl rfl (k := 2) rfl ?_
  refine kx_lt (Q := fun J1 => kW G X m_Model_drawn C J1 0 0 20 [.ref 88] []) (fun J1 eJ1 => ?_)
  refine kx_go 1 (pc' := 21) (lv' := [.ref 88]) (st' := [.ref 88]) hX ok_Model_drawn rfl ?_
  refine kx_getp hX ok_Model_drawn rfl (q := 89) (nx := 24) rfl ?_
  refine kx_go 1 (pc' := 25) (lv' := [.ref 88]) (st' := [.int (2 : Int32), .ref 89]) hX ok_Model_drawn rfl ?_
  refine kx_ialdc hX ok_Model_drawn (w := 270) (nx := 26) rfl rfl (k := 2) rfl ?_
  refine kx_go 2 (pc' := 29) (lv' := [.ref 88]) (st' := [.int (ush (J1 89 2) (8 : Int32))]) hX ok_Model_drawn rfl ?_
  rintro rfl
  exact kx_iret hX hE ok_Model_drawn (nx := 30) rfl rfl ⟨Nat.le_of_ble_eq_true rfl, Nat.le_of_ble_eq_true rfl⟩
def L_Model_again_4  : Nat → Int32 → Int32 → HI → Option (Int32 × HI)
  | 0, _, _, _ => none
  | f + 1, x1, x2, I => if (I 89 1) ≤ x2 then (some (x1, I)) else (lt (M_Model_drawn I) fun p2 => grd (bnd (((61 : Int32) + ((3 : Int32) * x2)) + (2 : Int32)) 270) (if (p2.1 - p2.1 / (100 : Int32) * (100 : Int32)) < (p2.2 89 (((61 : Int32) + ((3 : Int32) * x2)) + (2 : Int32)).toNatClampNeg) then (L_Model_again_4 f x1 (x2 + (1 : Int32)) p2.2) else (Option.bind (M_Model_upper p2.2 x2) fun p5 => Option.bind (M_Model_lower p2.2 x2) fun p6 => grd (bnd ((61 : Int32) + ((3 : Int32) * x2)) 270) (lt (xu p2.2 89 ((61 : Int32) + ((3 : Int32) * x2)).toNatClampNeg p6) fun J8 => grd (bnd (((61 : Int32) + ((3 : Int32) * x2)) + (1 : Int32)) 270) (lt (xu J8 89 (((61 : Int32) + ((3 : Int32) * x2)) + (1 : Int32)).toNatClampNeg p5) fun J10 => L_Model_again_4 f (x1 + (1 : Int32)) (x2 + (1 : Int32)) J10)))))
theorem s_L_Model_again_4 {G : xG} {X : xC} {d : Nat} (hd : 1 ≤ d) (hX : xAmb G X m_Model_again d 0 0)  (C : HC) : ∀ (f : Nat) (x1 : Int32) (x2 : Int32) (I : HI) (r : Int32 × HI), (kW G X m_Model_again C r.2 0 0 82 [.null, .int r.1, .null, .null] []) → L_Model_again_4 f x1 x2 I = some r → kW G X m_Model_again C I 0 0 4 [.ref 88, .int x1, .int x2, .null] [] := by
  intro f
  induction f with
  | zero => intro x1 x2 I r hk h; rw [L_Model_again_4] at h; cases h
  | succ f ih =>
    intro x1 x2 I r hk
    rw [L_Model_again_4]
    refine kx_go 2 (pc' := 6) (lv' := [.ref 88, .int x1, .int x2, .null]) (st' := [.ref 88, .int x2]) hX ok_Model_again rfl ?_
    refine kx_getp hX ok_Model_again rfl (q := 89) (nx := 9) rfl ?_
    refine kx_go 1 (pc' := 10) (lv' := [.ref 88, .int x1, .int x2, .null]) (st' := [.int (1 : Int32), .ref 89, .int x2]) hX ok_Model_again rfl ?_
    refine kx_ialdc hX ok_Model_again (w := 270) (nx := 11) rfl rfl (k := 1) rfl ?_
    refine kx_go 1 (pc' := if (I 89 1) ≤ x2 then 82 else 14) (lv' := [.ref 88, .int x1, .int x2, .null]) (st' := []) hX ok_Model_again rfl ?_
    refine kx_ite (fun c1 => ?_) (fun c1 => ?_)
    · refine kx_weak (lv' := [.null, .int x1, .null, .null]) (by simp [xsub]) ?_
      intro h; have h := Option.some.inj h; subst h
      exact hk
    · refine kx_go 1 (pc' := 15) (lv' := [.ref 88, .int x1, .int x2, .null]) (st' := [.ref 88]) hX ok_Model_again rfl ?_
      refine kx_lti (fun p2 hp2 => ?_)
      refine kx_V (r := 88) (as := []) (by decide) hX ok_Model_again (nx := 18) rfl l_Model_272 (by decide) rfl (fun _ => s_Model_drawn (G := G) (d := 0) (Nat.le_refl _) C I  p2 hp2) (by omega) rfl (rest := []) rfl (Nat.le_of_ble_eq_true rfl) ⟨Nat.le_of_ble_eq_true rfl, Nat.le_of_ble_eq_true rfl⟩ ?_
      show _ → kW G X m_Model_again C p2.2 0 0 18 [.ref 88, .int x1, .int x2, .null] [.int p2.1]
      refine kx_go 1 (pc' := 20) (lv' := [.ref 88, .int x1, .int x2, .null]) (st' := [.int (100 : Int32), .int p2.1]) hX ok_Model_again rfl ?_
      refine kx_iremc hX ok_Model_again (nx := 21) rfl (by decide) ?_
      refine kx_go 1 (pc' := 22) (lv' := [.ref 88, .int x1, .int x2, .null]) (st' := [.ref 88, .int (p2.1 - p2.1 / (100 : Int32) * (100 : Int32))]) hX ok_Model_again rfl ?_
      refine kx_getp hX ok_Model_again rfl (q := 89) (nx := 25) rfl ?_
      refine kx_go 7 (pc' := 33) (lv' := [.ref 88, .int x1, .int x2, .null]) (st' := [.int (((61 : Int32) + ((3 : Int32) * x2)) + (2 : Int32)), .ref 89, .int (p2.1 - p2.1 / (100 : Int32) * (100 : Int32))]) hX ok_Model_again rfl ?_
      refine kx_iald hX ok_Model_again (w := 270) (nx := 34) rfl (fun b3 => ?_)
      refine kx_go 1 (pc' := if (p2.1 - p2.1 / (100 : Int32) * (100 : Int32)) < (p2.2 89 (((61 : Int32) + ((3 : Int32) * x2)) + (2 : Int32)).toNatClampNeg) then 76 else 37) (lv' := [.ref 88, .int x1, .int x2, .null]) (st' := []) hX ok_Model_again rfl ?_
      refine kx_ite (fun c4 => ?_) (fun c4 => ?_)
      · refine kx_go 2 (pc' := 4) (lv' := [.ref 88, .int x1, .int (x2 + (1 : Int32)), .null]) (st' := []) hX ok_Model_again rfl ?_
        exact fun h => ih x1 (x2 + (1 : Int32)) p2.2 r hk h
      · refine kx_go 2 (pc' := 39) (lv' := [.ref 88, .int x1, .int x2, .null]) (st' := [.int x2, .ref 88]) hX ok_Model_again rfl ?_
        refine kx_bind (fun p5 hp5 => ?_)
        refine kx_V (r := 88) (as := [.int x2]) (by decide) hX ok_Model_again (nx := 42) rfl l_Model_194 (by decide) rfl (fun _ => s_Model_upper (G := G) (d := 0) (Nat.le_refl _) C p2.2 x2 p5 hp5) (by omega) rfl (rest := []) rfl (Nat.le_of_ble_eq_true rfl) ⟨Nat.le_of_ble_eq_true rfl, Nat.le_of_ble_eq_true rfl⟩ ?_
        show _ → kW G X m_Model_again C p2.2 0 0 42 [.ref 88, .int x1, .int x2, .null] [.int p5]
        refine kx_go 2 (pc' := 44) (lv' := [.ref 88, .int x1, .int x2, .int p5]) (st' := [.ref 88]) hX ok_Model_again rfl ?_
        refine kx_getp hX ok_Model_again rfl (q := 89) (nx := 47) rfl ?_
        refine kx_go 7 (pc' := 55) (lv' := [.ref 88, .int x1, .int x2, .int p5]) (st' := [.int x2, .ref 88, .int ((61 : Int32) + ((3 : Int32) * x2)), .ref 89]) hX ok_Model_again rfl ?_
        refine kx_bind (fun p6 hp6 => ?_)
        refine kx_V (r := 88) (as := [.int x2]) (by decide) hX ok_Model_again (nx := 58) rfl l_Model_205 (by decide) rfl (fun _ => s_Model_lower (G := G) (d := 0) (Nat.le_refl _) C p2.2 x2 p6 hp6) (by omega) rfl (rest := [.int ((61 : Int32) + ((3 : Int32) * x2)), .ref 89]) rfl (Nat.le_of_ble_eq_true rfl) ⟨Nat.le_of_ble_eq_true rfl, Nat.le_of_ble_eq_true rfl⟩ ?_
        show _ → kW G X m_Model_again C p2.2 0 0 58 [.ref 88, .int x1, .int x2, .int p5] [.int p6, .int ((61 : Int32) + ((3 : Int32) * x2)), .ref 89]
        refine kx_iast hX ok_Model_again (w := 270) (nx := 59) rfl (fun b7 => ?_)
        refine kx_lt (Q := fun J8 => kW G X m_Model_again C J8 0 0 59 [.ref 88, .int x1, .int x2, .int p5] []) (fun J8 eJ8 => ?_)
        refine kx_go 1 (pc' := 60) (lv' := [.ref 88, .int x1, .int x2, .int p5]) (st' := [.ref 88]) hX ok_Model_again rfl ?_
        refine kx_getp hX ok_Model_again rfl (q := 89) (nx := 63) rfl ?_
        refine kx_go 8 (pc' := 72) (lv' := [.ref 88, .int x1, .int x2, .int p5]) (st' := [.int p5, .int (((61 : Int32) + ((3 : Int32) * x2)) + (1 : Int32)), .ref 89]) hX ok_Model_again rfl ?_
        refine kx_iast hX ok_Model_again (w := 270) (nx := 73) rfl (fun b9 => ?_)
        refine kx_lt (Q := fun J10 => kW G X m_Model_again C J10 0 0 73 [.ref 88, .int x1, .int x2, .int p5] []) (fun J10 eJ10 => ?_)
        refine kx_go 3 (pc' := 4) (lv' := [.ref 88, .int (x1 + (1 : Int32)), .int (x2 + (1 : Int32)), .int p5]) (st' := []) hX ok_Model_again rfl ?_
        refine kx_weak (lv' := [.ref 88, .int (x1 + (1 : Int32)), .int (x2 + (1 : Int32)), .null]) (by simp [xsub]) ?_
        exact fun h => ih (x1 + (1 : Int32)) (x2 + (1 : Int32)) J10 r hk h
def M_Model_again (I : HI) : Option (Int32 × HI) := Option.bind (L_Model_again_4 1000 (0 : Int32) (0 : Int32) I) fun p1 => some (p1.1, p1.2)
theorem s_Model_again {G : xG} {d : Nat} (hd : 1 ≤ d) (C : HC) (I : HI)   (r : Int32 × HI) : M_Model_again I = some r → kM G d m_Model_again [.ref 88] C I 0 0 (some (.int r.1)) C r.2 := by
  unfold M_Model_again
  refine kM.of (by decide +kernel) (Nat.le_of_ble_eq_true rfl) (lv := [.ref 88, .null, .null, .null]) rfl (fun X hX hE => ?_)
  refine kx_go 4 (pc' := 4) (lv' := [.ref 88, .int (0 : Int32), .int (0 : Int32), .null]) (st' := []) hX ok_Model_again rfl ?_
  refine kx_bind (fun p1 hp1 => ?_)
  refine kx_via (fun hk => s_L_Model_again_4 (G := G) (X := X) (by omega) hX C 1000 (0 : Int32) (0 : Int32) I p1 hk hp1) ?_
  refine kx_go 1 (pc' := 83) (lv' := [.null, .int p1.1, .null, .null]) (st' := [.int p1.1]) hX ok_Model_again rfl ?_
  intro h; have h := Option.some.inj h; subst h
  exact kx_iret hX hE ok_Model_again (nx := 84) rfl rfl ⟨Nat.le_of_ble_eq_true rfl, Nat.le_of_ble_eq_true rfl⟩
def M_Model_seed (I : HI) (x1 : Int32) : Int32 × HI := lt (xu I 89 2 x1) fun J1 => ((I 89 2), J1)
theorem s_Model_seed {G : xG} {d : Nat} (hd : 0 ≤ d) (C : HC) (I : HI) (x1 : Int32)  (r : Int32 × HI) : M_Model_seed I x1 = r → kM G d m_Model_seed [.ref 88, .int x1] C I 0 0 (some (.int r.1)) C r.2 := by
  unfold M_Model_seed
  refine kM.of (by decide +kernel) (Nat.le_of_ble_eq_true rfl) (lv := [.ref 88, .int x1, .null]) rfl (fun X hX hE => ?_)
  refine kx_go 1 (pc' := 1) (lv' := [.ref 88, .int x1, .null]) (st' := [.ref 88]) hX ok_Model_seed rfl ?_
  refine kx_getp hX ok_Model_seed rfl (q := 89) (nx := 4) rfl ?_
  refine kx_go 1 (pc' := 5) (lv' := [.ref 88, .int x1, .null]) (st' := [.int (2 : Int32), .ref 89]) hX ok_Model_seed rfl ?_
  refine kx_ialdc hX ok_Model_seed (w := 270) (nx := 6) rfl rfl (k := 2) rfl ?_
  refine kx_go 2 (pc' := 8) (lv' := [.ref 88, .int x1, .int (I 89 2)]) (st' := [.ref 88]) hX ok_Model_seed rfl ?_
  refine kx_getp hX ok_Model_seed rfl (q := 89) (nx := 11) rfl ?_
  refine kx_go 2 (pc' := 13) (lv' := [.ref 88, .int x1, .int (I 89 2)]) (st' := [.int x1, .int (2 : Int32), .ref 89]) hX ok_Model_seed rfl ?_
  refine kx_iastc hX ok_Model_seed (w := 270) (nx := 14) rfl rfl (k := 2) rfl ?_
  refine kx_lt (Q := fun J1 => kW G X m_Model_seed C J1 0 0 14 [.ref 88, .int x1, .int (I 89 2)] []) (fun J1 eJ1 => ?_)
  refine kx_go 1 (pc' := 15) (lv' := [.ref 88, .int x1, .int (I 89 2)]) (st' := [.int (I 89 2)]) hX ok_Model_seed rfl ?_
  rintro rfl
  exact kx_iret hX hE ok_Model_seed (nx := 16) rfl rfl ⟨Nat.le_of_ble_eq_true rfl, Nat.le_of_ble_eq_true rfl⟩
def M_Model_voice (I : HI) (x1 : Int32) (x2 : Int32) (x3 : Int32) : Option (Int32 × HI) := if (M_Model_isStroke I x1) = (0 : Int32) then (Option.bind (M_Model_finds I (1 : Int32)) fun p2 => some (p2.1, p2.2)) else (if (M_Model_in (x2.toInt64) (Int64.ofNat 0) (Int64.ofNat 3)) = (0 : Int32) then (Option.bind (M_Model_finds I (1 : Int32)) fun p4 => some (p4.1, p4.2)) else (lt (xu I 88 21 (0 : Int32)) fun J5 => lt (xu J5 88 22 x1) fun J6 => Option.bind (M_Model_own J6) fun p7 => if x2 = (0 : Int32) then (Option.bind (M_Model_draws (U_draws 4) J6 p7 x3) fun p9 => some (p9.1, p9.2)) else (if x2 = (1 : Int32) then (Option.bind (M_Model_dries (U_dries 4) J6 p7 x3) fun p11 => some (p11.1, p11.2)) else (if x2 = (2 : Int32) then (Option.bind (M_Model_peels (U_peels 4) J6 p7 x3) fun p13 => some (p13.1, p13.2)) else (Option.bind (M_Model_tells (U_tells 4) J6 p7 x3) fun p14 => some (p14.1, p14.2))))))
theorem s_Model_voice {G : xG} {d : Nat} (hd : 316 ≤ d) (C : HC) (I : HI) (x1 : Int32) (x2 : Int32) (x3 : Int32)  (r : Int32 × HI) : M_Model_voice I x1 x2 x3 = some r → kM G d m_Model_voice [.ref 88, .int x1, .int x2, .int x3] C I 0 0 (some (.int r.1)) C r.2 := by
  unfold M_Model_voice
  refine kM.of (by decide +kernel) (Nat.le_of_ble_eq_true rfl) (lv := [.ref 88, .int x1, .int x2, .int x3, .null]) rfl (fun X hX hE => ?_)
  refine kx_go 2 (pc' := 2) (lv' := [.ref 88, .int x1, .int x2, .int x3, .null]) (st' := [.int x1, .ref 88]) hX ok_Model_voice rfl ?_
  refine kx_V (r := 88) (as := [.int x1]) (by decide) hX ok_Model_voice (nx := 5) rfl l_Model_165 (by decide) rfl (fun _ => s_Model_isStroke (G := G) (d := 1) (Nat.le_refl _) C I x1 _ rfl) (by omega) rfl (rest := []) rfl (Nat.le_of_ble_eq_true rfl) ⟨Nat.le_of_ble_eq_true rfl, Nat.le_of_ble_eq_true rfl⟩ ?_
  show _ → kW G X m_Model_voice C I 0 0 5 [.ref 88, .int x1, .int x2, .int x3, .null] [.int (M_Model_isStroke I x1)]
  refine kx_go 1 (pc' := if (M_Model_isStroke I x1) = (0 : Int32) then 20 else 8) (lv' := [.ref 88, .int x1, .int x2, .int x3, .null]) (st' := []) hX ok_Model_voice rfl ?_
  refine kx_ite (fun c1 => ?_) (fun c1 => ?_)
  · refine kx_go 2 (pc' := 22) (lv' := [.ref 88, .int x1, .int x2, .int x3, .null]) (st' := [.int (1 : Int32), .ref 88]) hX ok_Model_voice rfl ?_
    refine kx_bind (fun p2 hp2 => ?_)
    refine kx_V (r := 88) (as := [.int (1 : Int32)]) (by decide) hX ok_Model_voice (nx := 25) rfl l_Model_129 (by decide) rfl (fun _ => s_Model_finds (G := G) (d := 0) (Nat.le_refl _) C I (1 : Int32) p2 hp2) (by omega) rfl (rest := []) rfl (Nat.le_of_ble_eq_true rfl) ⟨Nat.le_of_ble_eq_true rfl, Nat.le_of_ble_eq_true rfl⟩ ?_
    show _ → kW G X m_Model_voice C p2.2 0 0 25 [.ref 88, .int x1, .int x2, .int x3, .null] [.int p2.1]
    intro h; have h := Option.some.inj h; subst h
    exact kx_iret hX hE ok_Model_voice (nx := 26) rfl rfl ⟨Nat.le_of_ble_eq_true rfl, Nat.le_of_ble_eq_true rfl⟩
  · refine kx_go 4 (pc' := 14) (lv' := [.ref 88, .int x1, .int x2, .int x3, .null]) (st' := [.long (Int64.ofNat 3), .long (Int64.ofNat 0), .long (x2.toInt64)]) hX ok_Model_voice rfl ?_
    refine kx_S (as := [.long (x2.toInt64), .long (Int64.ofNat 0), .long (Int64.ofNat 3)]) hX ok_Model_voice (nx := 17) rfl l_Model_66 (fun _ => s_Model_in (G := G) (d := 0) (Nat.le_refl _) C I (x2.toInt64) (Int64.ofNat 0) (Int64.ofNat 3) _ rfl) (by omega) rfl (rest := []) rfl (Nat.le_of_ble_eq_true rfl) ⟨Nat.le_of_ble_eq_true rfl, Nat.le_of_ble_eq_true rfl⟩ ?_
    show _ → kW G X m_Model_voice C I 0 0 17 [.ref 88, .int x1, .int x2, .int x3, .null] [.int (M_Model_in (x2.toInt64) (Int64.ofNat 0) (Int64.ofNat 3))]
    refine kx_go 1 (pc' := if (M_Model_in (x2.toInt64) (Int64.ofNat 0) (Int64.ofNat 3)) = (0 : Int32) then 20 else 26) (lv' := [.ref 88, .int x1, .int x2, .int x3, .null]) (st' := []) hX ok_Model_voice rfl ?_
    refine kx_ite (fun c3 => ?_) (fun c3 => ?_)
    · refine kx_go 2 (pc' := 22) (lv' := [.ref 88, .int x1, .int x2, .int x3, .null]) (st' := [.int (1 : Int32), .ref 88]) hX ok_Model_voice rfl ?_
      refine kx_bind (fun p4 hp4 => ?_)
      refine kx_V (r := 88) (as := [.int (1 : Int32)]) (by decide) hX ok_Model_voice (nx := 25) rfl l_Model_129 (by decide) rfl (fun _ => s_Model_finds (G := G) (d := 0) (Nat.le_refl _) C I (1 : Int32) p4 hp4) (by omega) rfl (rest := []) rfl (Nat.le_of_ble_eq_true rfl) ⟨Nat.le_of_ble_eq_true rfl, Nat.le_of_ble_eq_true rfl⟩ ?_
      show _ → kW G X m_Model_voice C p4.2 0 0 25 [.ref 88, .int x1, .int x2, .int x3, .null] [.int p4.1]
      intro h; have h := Option.some.inj h; subst h
      exact kx_iret hX hE ok_Model_voice (nx := 26) rfl rfl ⟨Nat.le_of_ble_eq_true rfl, Nat.le_of_ble_eq_true rfl⟩
    · refine kx_go 2 (pc' := 28) (lv' := [.ref 88, .int x1, .int x2, .int x3, .null]) (st' := [.int (0 : Int32), .ref 88]) hX ok_Model_voice rfl ?_
      refine kx_puti hX ok_Model_voice rfl (k := 21) (nx := 31) rfl rfl ?_
      refine kx_lt (Q := fun J5 => kW G X m_Model_voice C J5 0 0 31 [.ref 88, .int x1, .int x2, .int x3, .null] []) (fun J5 eJ5 => ?_)
      refine kx_go 2 (pc' := 33) (lv' := [.ref 88, .int x1, .int x2, .int x3, .null]) (st' := [.int x1, .ref 88]) hX ok_Model_voice rfl ?_
      refine kx_puti hX ok_Model_voice rfl (k := 22) (nx := 36) rfl rfl ?_
      refine kx_lt (Q := fun J6 => kW G X m_Model_voice C J6 0 0 36 [.ref 88, .int x1, .int x2, .int x3, .null] []) (fun J6 eJ6 => ?_)
      refine kx_go 1 (pc' := 37) (lv' := [.ref 88, .int x1, .int x2, .int x3, .null]) (st' := [.ref 88]) hX ok_Model_voice rfl ?_
      refine kx_bind (fun p7 hp7 => ?_)
      refine kx_V (r := 88) (as := []) (by decide) hX ok_Model_voice (nx := 40) rfl l_Model_288 (by decide) rfl (fun _ => s_Model_own (G := G) (d := 1) (Nat.le_refl _) C J6  p7 hp7) (by omega) rfl (rest := []) rfl (Nat.le_of_ble_eq_true rfl) ⟨Nat.le_of_ble_eq_true rfl, Nat.le_of_ble_eq_true rfl⟩ ?_
      show _ → kW G X m_Model_voice C J6 0 0 40 [.ref 88, .int x1, .int x2, .int x3, .null] [.int p7]
      refine kx_go 3 (pc' := if x2 = (0 : Int32) then 46 else 56) (lv' := [.ref 88, .int x1, .int x2, .int x3, .int p7]) (st' := []) hX ok_Model_voice rfl ?_
      refine kx_ite (fun c8 => ?_) (fun c8 => ?_)
      · refine kx_go 3 (pc' := 50) (lv' := [.ref 88, .int x1, .int x2, .int x3, .int p7]) (st' := [.int x3, .int p7, .ref 88]) hX ok_Model_voice rfl ?_
        refine kx_bind (fun p9 hp9 => ?_)
        refine kx_V (r := 88) (as := [.int p7, .int x3]) (by decide) hX ok_Model_voice (nx := 53) rfl l_Model_285 (by decide) rfl (fun _ => s_Model_draws (G := G) (d := 8 + 1) (Nat.le_refl _) (U_draws 4) C J6 p7 x3 (s_U_draws C 4) p9 hp9) (by omega) rfl (rest := []) rfl (Nat.le_of_ble_eq_true rfl) ⟨Nat.le_of_ble_eq_true rfl, Nat.le_of_ble_eq_true rfl⟩ ?_
        show _ → kW G X m_Model_voice C p9.2 0 0 53 [.ref 88, .int x1, .int x2, .int x3, .int p7] [.int p9.1]
        refine kx_go 1 (pc' := 93) (lv' := [.ref 88, .int x1, .int x2, .int x3, .int p7]) (st' := [.int p9.1]) hX ok_Model_voice rfl ?_
        intro h; have h := Option.some.inj h; subst h
        exact kx_iret hX hE ok_Model_voice (nx := 94) rfl rfl ⟨Nat.le_of_ble_eq_true rfl, Nat.le_of_ble_eq_true rfl⟩
      · refine kx_go 3 (pc' := if x2 = (1 : Int32) then 61 else 71) (lv' := [.ref 88, .int x1, .int x2, .int x3, .int p7]) (st' := []) hX ok_Model_voice rfl ?_
        refine kx_ite (fun c10 => ?_) (fun c10 => ?_)
        · refine kx_go 3 (pc' := 65) (lv' := [.ref 88, .int x1, .int x2, .int x3, .int p7]) (st' := [.int x3, .int p7, .ref 88]) hX ok_Model_voice rfl ?_
          refine kx_bind (fun p11 hp11 => ?_)
          refine kx_V (r := 88) (as := [.int p7, .int x3]) (by decide) hX ok_Model_voice (nx := 68) rfl l_Model_291 (by decide) rfl (fun _ => s_Model_dries (G := G) (d := 48 + 10) (Nat.le_refl _) (U_dries 4) C J6 p7 x3 (s_U_dries C 4) p11 hp11) (by omega) rfl (rest := []) rfl (Nat.le_of_ble_eq_true rfl) ⟨Nat.le_of_ble_eq_true rfl, Nat.le_of_ble_eq_true rfl⟩ ?_
          show _ → kW G X m_Model_voice C p11.2 0 0 68 [.ref 88, .int x1, .int x2, .int x3, .int p7] [.int p11.1]
          refine kx_go 1 (pc' := 93) (lv' := [.ref 88, .int x1, .int x2, .int x3, .int p7]) (st' := [.int p11.1]) hX ok_Model_voice rfl ?_
          intro h; have h := Option.some.inj h; subst h
          exact kx_iret hX hE ok_Model_voice (nx := 94) rfl rfl ⟨Nat.le_of_ble_eq_true rfl, Nat.le_of_ble_eq_true rfl⟩
        · refine kx_go 3 (pc' := if x2 = (2 : Int32) then 76 else 86) (lv' := [.ref 88, .int x1, .int x2, .int x3, .int p7]) (st' := []) hX ok_Model_voice rfl ?_
          refine kx_ite (fun c12 => ?_) (fun c12 => ?_)
          · refine kx_go 3 (pc' := 80) (lv' := [.ref 88, .int x1, .int x2, .int x3, .int p7]) (st' := [.int x3, .int p7, .ref 88]) hX ok_Model_voice rfl ?_
            refine kx_bind (fun p13 hp13 => ?_)
            refine kx_V (r := 88) (as := [.int p7, .int x3]) (by decide) hX ok_Model_voice (nx := 83) rfl l_Model_294 (by decide) rfl (fun _ => s_Model_peels (G := G) (d := 8 + 1) (Nat.le_refl _) (U_peels 4) C J6 p7 x3 (s_U_peels C 4) p13 hp13) (by omega) rfl (rest := []) rfl (Nat.le_of_ble_eq_true rfl) ⟨Nat.le_of_ble_eq_true rfl, Nat.le_of_ble_eq_true rfl⟩ ?_
            show _ → kW G X m_Model_voice C p13.2 0 0 83 [.ref 88, .int x1, .int x2, .int x3, .int p7] [.int p13.1]
            refine kx_go 1 (pc' := 93) (lv' := [.ref 88, .int x1, .int x2, .int x3, .int p7]) (st' := [.int p13.1]) hX ok_Model_voice rfl ?_
            intro h; have h := Option.some.inj h; subst h
            exact kx_iret hX hE ok_Model_voice (nx := 94) rfl rfl ⟨Nat.le_of_ble_eq_true rfl, Nat.le_of_ble_eq_true rfl⟩
          · refine kx_go 3 (pc' := 90) (lv' := [.ref 88, .int x1, .int x2, .int x3, .int p7]) (st' := [.int x3, .int p7, .ref 88]) hX ok_Model_voice rfl ?_
            refine kx_bind (fun p14 hp14 => ?_)
            refine kx_V (r := 88) (as := [.int p7, .int x3]) (by decide) hX ok_Model_voice (nx := 93) rfl l_Model_297 (by decide) rfl (fun _ => s_Model_tells (G := G) (d := 256 + 59) (Nat.le_refl _) (U_tells 4) C J6 p7 x3 (s_U_tells C 4) p14 hp14) (by omega) rfl (rest := []) rfl (Nat.le_of_ble_eq_true rfl) ⟨Nat.le_of_ble_eq_true rfl, Nat.le_of_ble_eq_true rfl⟩ ?_
            show _ → kW G X m_Model_voice C p14.2 0 0 93 [.ref 88, .int x1, .int x2, .int x3, .int p7] [.int p14.1]
            intro h; have h := Option.some.inj h; subst h
            exact kx_iret hX hE ok_Model_voice (nx := 94) rfl rfl ⟨Nat.le_of_ble_eq_true rfl, Nat.le_of_ble_eq_true rfl⟩
def M_Model_trace (I : HI) (x1 : Int32) : Option (Int32 × HI) := if (M_Model_in (x1.toInt64) (Int64.ofNat 0) (((I 88 21) - (1 : Int32)).toInt64)) = (0 : Int32) then (Option.bind (M_Model_finds I (2 : Int32)) fun p2 => some (p2.1, p2.2)) else (grd (bnd x1 40) (some ((I 102 x1.toNatClampNeg), I)))
theorem s_Model_trace {G : xG} {d : Nat} (hd : 1 ≤ d) (C : HC) (I : HI) (x1 : Int32)  (r : Int32 × HI) : M_Model_trace I x1 = some r → kM G d m_Model_trace [.ref 88, .int x1] C I 0 0 (some (.int r.1)) C r.2 := by
  unfold M_Model_trace
  refine kM.of (by decide +kernel) (Nat.le_of_ble_eq_true rfl) (lv := [.ref 88, .int x1]) rfl (fun X hX hE => ?_)
  refine kx_go 4 (pc' := 4) (lv' := [.ref 88, .int x1]) (st' := [.ref 88, .long (Int64.ofNat 0), .long (x1.toInt64)]) hX ok_Model_trace rfl ?_
  refine kx_geti hX ok_Model_trace rfl (k := 21) (nx := 7) rfl ?_
  refine kx_go 3 (pc' := 10) (lv' := [.ref 88, .int x1]) (st' := [.long (((I 88 21) - (1 : Int32)).toInt64), .long (Int64.ofNat 0), .long (x1.toInt64)]) hX ok_Model_trace rfl ?_
  refine kx_S (as := [.long (x1.toInt64), .long (Int64.ofNat 0), .long (((I 88 21) - (1 : Int32)).toInt64)]) hX ok_Model_trace (nx := 13) rfl l_Model_66 (fun _ => s_Model_in (G := G) (d := 0) (Nat.le_refl _) C I (x1.toInt64) (Int64.ofNat 0) (((I 88 21) - (1 : Int32)).toInt64) _ rfl) (by omega) rfl (rest := []) rfl (Nat.le_of_ble_eq_true rfl) ⟨Nat.le_of_ble_eq_true rfl, Nat.le_of_ble_eq_true rfl⟩ ?_
  show _ → kW G X m_Model_trace C I 0 0 13 [.ref 88, .int x1] [.int (M_Model_in (x1.toInt64) (Int64.ofNat 0) (((I 88 21) - (1 : Int32)).toInt64))]
  refine kx_go 1 (pc' := if (M_Model_in (x1.toInt64) (Int64.ofNat 0) (((I 88 21) - (1 : Int32)).toInt64)) = (0 : Int32) then 25 else 16) (lv' := [.ref 88, .int x1]) (st' := []) hX ok_Model_trace rfl ?_
  refine kx_ite (fun c1 => ?_) (fun c1 => ?_)
  · refine kx_go 2 (pc' := 27) (lv' := [.ref 88, .int x1]) (st' := [.int (2 : Int32), .ref 88]) hX ok_Model_trace rfl ?_
    refine kx_bind (fun p2 hp2 => ?_)
    refine kx_V (r := 88) (as := [.int (2 : Int32)]) (by decide) hX ok_Model_trace (nx := 30) rfl l_Model_129 (by decide) rfl (fun _ => s_Model_finds (G := G) (d := 0) (Nat.le_refl _) C I (2 : Int32) p2 hp2) (by omega) rfl (rest := []) rfl (Nat.le_of_ble_eq_true rfl) ⟨Nat.le_of_ble_eq_true rfl, Nat.le_of_ble_eq_true rfl⟩ ?_
    show _ → kW G X m_Model_trace C p2.2 0 0 30 [.ref 88, .int x1] [.int p2.1]
    intro h; have h := Option.some.inj h; subst h
    exact kx_iret hX hE ok_Model_trace (nx := 31) rfl rfl ⟨Nat.le_of_ble_eq_true rfl, Nat.le_of_ble_eq_true rfl⟩
  · refine kx_go 1 (pc' := 17) (lv' := [.ref 88, .int x1]) (st' := [.ref 88]) hX ok_Model_trace rfl ?_
    refine kx_getp hX ok_Model_trace rfl (q := 102) (nx := 20) rfl ?_
    refine kx_go 1 (pc' := 21) (lv' := [.ref 88, .int x1]) (st' := [.int x1, .ref 102]) hX ok_Model_trace rfl ?_
    refine kx_iald hX ok_Model_trace (w := 40) (nx := 22) rfl (fun b3 => ?_)
    refine kx_go 1 (pc' := 30) (lv' := [.ref 88, .int x1]) (st' := [.int (I 102 x1.toNatClampNeg)]) hX ok_Model_trace rfl ?_
    intro h; have h := Option.some.inj h; subst h
    exact kx_iret hX hE ok_Model_trace (nx := 31) rfl rfl ⟨Nat.le_of_ble_eq_true rfl, Nat.le_of_ble_eq_true rfl⟩
def M_Model_isSheet (x0 : Int32) : Int32 := (M_Model_in (x0.toInt64) (Int64.ofNat 0) (Int64.ofNat 3))
theorem s_Model_isSheet {G : xG} {d : Nat} (hd : 1 ≤ d) (C : HC) (I : HI) (x0 : Int32)  (r : Int32) : M_Model_isSheet x0 = r → kM G d m_Model_isSheet [.int x0] C I 0 0 (some (.int r)) C I := by
  unfold M_Model_isSheet
  refine kM.of (by decide +kernel) (Nat.le_of_ble_eq_true rfl) (lv := [.int x0]) rfl (fun X hX hE => ?_)
  refine kx_go 4 (pc' := 6) (lv' := [.int x0]) (st' := [.long (Int64.ofNat 3), .long (Int64.ofNat 0), .long (x0.toInt64)]) hX ok_Model_isSheet rfl ?_
  refine kx_S (as := [.long (x0.toInt64), .long (Int64.ofNat 0), .long (Int64.ofNat 3)]) hX ok_Model_isSheet (nx := 9) rfl l_Model_66 (fun _ => s_Model_in (G := G) (d := 0) (Nat.le_refl _) C I (x0.toInt64) (Int64.ofNat 0) (Int64.ofNat 3) _ rfl) (by omega) rfl (rest := []) rfl (Nat.le_of_ble_eq_true rfl) ⟨Nat.le_of_ble_eq_true rfl, Nat.le_of_ble_eq_true rfl⟩ ?_
  show _ → kW G X m_Model_isSheet C I 0 0 9 [.int x0] [.int (M_Model_in (x0.toInt64) (Int64.ofNat 0) (Int64.ofNat 3))]
  rintro rfl
  exact kx_zret hX hE ok_Model_isSheet (nx := 10) rfl rfl (b_Model_in ..) ⟨Nat.le_of_ble_eq_true rfl, Nat.le_of_ble_eq_true rfl⟩
def L_Model_sheet_90 (x1 : Int32) : Nat → Int32 → HI → Option (HI)
  | 0, _, _ => none
  | f + 1, x4, I => if (40 : Int32) ≤ x4 then (some I) else (grd (bnd (((40 : Int32) * x1) + x4) 160) (lt (xu I 105 (((40 : Int32) * x1) + x4).toNatClampNeg (0 : Int32)) fun J3 => L_Model_sheet_90 x1 f (x4 + (1 : Int32)) J3))
theorem s_L_Model_sheet_90 {G : xG} {X : xC} {d : Nat} (hd : 2 ≤ d) (hX : xAmb G X m_Model_sheet d 0 0)  (C : HC) (x1 : Int32) : ∀ (f : Nat) (x4 : Int32) (I : HI) (r : HI), (kW G X m_Model_sheet C r 0 0 116 [.null, .null, .null, .null, .null] []) → L_Model_sheet_90 x1 f x4 I = some r → kW G X m_Model_sheet C I 0 0 90 [.ref 88, .int x1, .null, .null, .int x4] [] := by
  intro f
  induction f with
  | zero => intro x4 I r hk h; rw [L_Model_sheet_90] at h; cases h
  | succ f ih =>
    intro x4 I r hk
    rw [L_Model_sheet_90]
    refine kx_go 3 (pc' := if (40 : Int32) ≤ x4 then 116 else 97) (lv' := [.ref 88, .int x1, .null, .null, .int x4]) (st' := []) hX ok_Model_sheet rfl ?_
    refine kx_ite (fun c1 => ?_) (fun c1 => ?_)
    · refine kx_weak (lv' := [.null, .null, .null, .null, .null]) (by simp [xsub]) ?_
      intro h; have h := Option.some.inj h; subst h
      exact hk
    · refine kx_go 1 (pc' := 98) (lv' := [.ref 88, .int x1, .null, .null, .int x4]) (st' := [.ref 88]) hX ok_Model_sheet rfl ?_
      refine kx_getp hX ok_Model_sheet rfl (q := 105) (nx := 101) rfl ?_
      refine kx_go 6 (pc' := 109) (lv' := [.ref 88, .int x1, .null, .null, .int x4]) (st' := [.int (0 : Int32), .int (((40 : Int32) * x1) + x4), .ref 105]) hX ok_Model_sheet rfl ?_
      refine kx_iast hX ok_Model_sheet (w := 160) (nx := 110) rfl (fun b2 => ?_)
      refine kx_lt (Q := fun J3 => kW G X m_Model_sheet C J3 0 0 110 [.ref 88, .int x1, .null, .null, .int x4] []) (fun J3 eJ3 => ?_)
      refine kx_go 2 (pc' := 90) (lv' := [.ref 88, .int x1, .null, .null, .int (x4 + (1 : Int32))]) (st' := []) hX ok_Model_sheet rfl ?_
      exact fun h => ih (x4 + (1 : Int32)) J3 r hk h
def M_Model_sheet (I : HI) (x1 : Int32) (x2 : Int32) (x3 : Int32) : Option (Int32 × HI) := if (M_Model_isSheet x1) = (0 : Int32) then (Option.bind (M_Model_finds I (1 : Int32)) fun p2 => some (p2.1, p2.2)) else (if x2 = (0 : Int32) then (grd (bnd x1 4) (lt (xu I 103 x1.toNatClampNeg x2) fun J5 => lt (xu J5 104 x1.toNatClampNeg (0 : Int32)) fun J6 => Option.bind (L_Model_sheet_90 x1 1000 (0 : Int32) J6) fun p7 => some ((1 : Int32), p7))) else (if x2 = (8 : Int32) then (if (0 : Int32) ≤ x3 then (if x3 ≤ (40 : Int32) then (grd (bnd x1 4) (lt (xu I 103 x1.toNatClampNeg x2) fun J12 => lt (xu J12 104 x1.toNatClampNeg x3) fun J13 => Option.bind (L_Model_sheet_90 x1 1000 (0 : Int32) J13) fun p14 => some ((1 : Int32), p14))) else (Option.bind (M_Model_finds I (1 : Int32)) fun p15 => some (p15.1, p15.2))) else (Option.bind (M_Model_finds I (3 : Int32)) fun p16 => some (p16.1, p16.2))) else (if x2 = (16 : Int32) then (if (0 : Int32) ≤ x3 then (if x3 ≤ (40 : Int32) then (grd (bnd x1 4) (lt (xu I 103 x1.toNatClampNeg x2) fun J21 => lt (xu J21 104 x1.toNatClampNeg x3) fun J22 => Option.bind (L_Model_sheet_90 x1 1000 (0 : Int32) J22) fun p23 => some ((1 : Int32), p23))) else (Option.bind (M_Model_finds I (1 : Int32)) fun p24 => some (p24.1, p24.2))) else (Option.bind (M_Model_finds I (3 : Int32)) fun p25 => some (p25.1, p25.2))) else (if x2 = (32 : Int32) then (if (0 : Int32) ≤ x3 then (if x3 ≤ (40 : Int32) then (grd (bnd x1 4) (lt (xu I 103 x1.toNatClampNeg x2) fun J30 => lt (xu J30 104 x1.toNatClampNeg x3) fun J31 => Option.bind (L_Model_sheet_90 x1 1000 (0 : Int32) J31) fun p32 => some ((1 : Int32), p32))) else (Option.bind (M_Model_finds I (1 : Int32)) fun p33 => some (p33.1, p33.2))) else (Option.bind (M_Model_finds I (3 : Int32)) fun p34 => some (p34.1, p34.2))) else (Option.bind (M_Model_finds I (1 : Int32)) fun p35 => some (p35.1, p35.2))))))
theorem s_Model_sheet {G : xG} {d : Nat} (hd : 2 ≤ d) (C : HC) (I : HI) (x1 : Int32) (x2 : Int32) (x3 : Int32)  (r : Int32 × HI) : M_Model_sheet I x1 x2 x3 = some r → kM G d m_Model_sheet [.ref 88, .int x1, .int x2, .int x3] C I 0 0 (some (.int r.1)) C r.2 := by
  unfold M_Model_sheet
  refine kM.of (by decide +kernel) (Nat.le_of_ble_eq_true rfl) (lv := [.ref 88, .int x1, .int x2, .int x3, .null]) rfl (fun X hX hE => ?_)
  refine kx_go 1 (pc' := 1) (lv' := [.ref 88, .int x1, .int x2, .int x3, .null]) (st' := [.int x1]) hX ok_Model_sheet rfl ?_
  refine kx_S (as := [.int x1]) hX ok_Model_sheet (nx := 4) rfl l_Model_300 (fun _ => s_Model_isSheet (G := G) (d := 1) (Nat.le_refl _) C I x1 _ rfl) (by omega) rfl (rest := []) rfl (Nat.le_of_ble_eq_true rfl) ⟨Nat.le_of_ble_eq_true rfl, Nat.le_of_ble_eq_true rfl⟩ ?_
  show _ → kW G X m_Model_sheet C I 0 0 4 [.ref 88, .int x1, .int x2, .int x3, .null] [.int (M_Model_isSheet x1)]
  refine kx_go 1 (pc' := if (M_Model_isSheet x1) = (0 : Int32) then 29 else 7) (lv' := [.ref 88, .int x1, .int x2, .int x3, .null]) (st' := []) hX ok_Model_sheet rfl ?_
  refine kx_ite (fun c1 => ?_) (fun c1 => ?_)
  · refine kx_go 2 (pc' := 31) (lv' := [.ref 88, .int x1, .int x2, .int x3, .null]) (st' := [.int (1 : Int32), .ref 88]) hX ok_Model_sheet rfl ?_
    refine kx_bind (fun p2 hp2 => ?_)
    refine kx_V (r := 88) (as := [.int (1 : Int32)]) (by decide) hX ok_Model_sheet (nx := 34) rfl l_Model_129 (by decide) rfl (fun _ => s_Model_finds (G := G) (d := 0) (Nat.le_refl _) C I (1 : Int32) p2 hp2) (by omega) rfl (rest := []) rfl (Nat.le_of_ble_eq_true rfl) ⟨Nat.le_of_ble_eq_true rfl, Nat.le_of_ble_eq_true rfl⟩ ?_
    show _ → kW G X m_Model_sheet C p2.2 0 0 34 [.ref 88, .int x1, .int x2, .int x3, .null] [.int p2.1]
    intro h; have h := Option.some.inj h; subst h
    exact kx_iret hX hE ok_Model_sheet (nx := 35) rfl rfl ⟨Nat.le_of_ble_eq_true rfl, Nat.le_of_ble_eq_true rfl⟩
  · refine kx_go 2 (pc' := if x2 = (0 : Int32) then 35 else 11) (lv' := [.ref 88, .int x1, .int x2, .int x3, .null]) (st' := []) hX ok_Model_sheet rfl ?_
    refine kx_ite (fun c3 => ?_) (fun c3 => ?_)
    · refine kx_go 2 (pc' := if x2 = (0 : Int32) then 49 else 39) (lv' := [.ref 88, .int x1, .int x2, .int x3, .null]) (st' := []) hX ok_Model_sheet rfl ?_
      refine kx_yes c3 ?_
      refine kx_go 2 (pc' := if x2 = (0 : Int32) then 65 else 53) (lv' := [.ref 88, .int x1, .int x2, .int x3, .null]) (st' := []) hX ok_Model_sheet rfl ?_
      refine kx_yes c3 ?_
      refine kx_go 1 (pc' := 66) (lv' := [.ref 88, .int x1, .int x2, .int x3, .null]) (st' := [.ref 88]) hX ok_Model_sheet rfl ?_
      refine kx_getp hX ok_Model_sheet rfl (q := 103) (nx := 69) rfl ?_
      refine kx_go 2 (pc' := 71) (lv' := [.ref 88, .int x1, .int x2, .int x3, .null]) (st' := [.int x2, .int x1, .ref 103]) hX ok_Model_sheet rfl ?_
      refine kx_iast hX ok_Model_sheet (w := 4) (nx := 72) rfl (fun b4 => ?_)
      refine kx_lt (Q := fun J5 => kW G X m_Model_sheet C J5 0 0 72 [.ref 88, .int x1, .int x2, .int x3, .null] []) (fun J5 eJ5 => ?_)
      refine kx_go 1 (pc' := 73) (lv' := [.ref 88, .int x1, .int x2, .int x3, .null]) (st' := [.ref 88]) hX ok_Model_sheet rfl ?_
      refine kx_getp hX ok_Model_sheet rfl (q := 104) (nx := 76) rfl ?_
      refine kx_go 3 (pc' := if x2 = (0 : Int32) then 81 else 85) (lv' := [.ref 88, .int x1, .int x2, .int x3, .null]) (st' := [.int x1, .ref 104]) hX ok_Model_sheet rfl ?_
      refine kx_yes c3 ?_
      refine kx_go 2 (pc' := 86) (lv' := [.ref 88, .int x1, .int x2, .int x3, .null]) (st' := [.int (0 : Int32), .int x1, .ref 104]) hX ok_Model_sheet rfl ?_
      refine kx_iastc hX ok_Model_sheet (w := 4) (nx := 87) rfl b4 (k := x1.toNatClampNeg) rfl ?_
      refine kx_lt (Q := fun J6 => kW G X m_Model_sheet C J6 0 0 87 [.ref 88, .int x1, .int x2, .int x3, .null] []) (fun J6 eJ6 => ?_)
      refine kx_go 2 (pc' := 90) (lv' := [.ref 88, .int x1, .int x2, .int x3, .int (0 : Int32)]) (st' := []) hX ok_Model_sheet rfl ?_
      refine kx_weak (lv' := [.ref 88, .int x1, .null, .null, .int (0 : Int32)]) (by simp [xsub]) ?_
      refine kx_bind (fun p7 hp7 => ?_)
      refine kx_via (fun hk => s_L_Model_sheet_90 (G := G) (X := X) (by omega) hX C x1 1000 (0 : Int32) J6 p7 hk hp7) ?_
      refine kx_go 1 (pc' := 117) (lv' := [.null, .null, .null, .null, .null]) (st' := [.int (1 : Int32)]) hX ok_Model_sheet rfl ?_
      intro h; have h := Option.some.inj h; subst h
      exact kx_iret hX hE ok_Model_sheet (nx := 118) rfl rfl ⟨Nat.le_of_ble_eq_true rfl, Nat.le_of_ble_eq_true rfl⟩
    · refine kx_go 3 (pc' := if x2 = (8 : Int32) then 35 else 17) (lv' := [.ref 88, .int x1, .int x2, .int x3, .null]) (st' := []) hX ok_Model_sheet rfl ?_
      refine kx_ite (fun c8 => ?_) (fun c8 => ?_)
      · refine kx_go 2 (pc' := if x2 = (0 : Int32) then 49 else 39) (lv' := [.ref 88, .int x1, .int x2, .int x3, .null]) (st' := []) hX ok_Model_sheet rfl ?_
        refine kx_no c3 ?_
        refine kx_go 2 (pc' := if (0 : Int32) ≤ x3 then 49 else 43) (lv' := [.ref 88, .int x1, .int x2, .int x3, .null]) (st' := []) hX ok_Model_sheet rfl ?_
        refine kx_ite (fun c9 => ?_) (fun c9 => ?_)
        · refine kx_go 2 (pc' := if x2 = (0 : Int32) then 65 else 53) (lv' := [.ref 88, .int x1, .int x2, .int x3, .null]) (st' := []) hX ok_Model_sheet rfl ?_
          refine kx_no c3 ?_
          refine kx_go 3 (pc' := if x3 ≤ (40 : Int32) then 65 else 59) (lv' := [.ref 88, .int x1, .int x2, .int x3, .null]) (st' := []) hX ok_Model_sheet rfl ?_
          refine kx_ite (fun c10 => ?_) (fun c10 => ?_)
          · refine kx_go 1 (pc' := 66) (lv' := [.ref 88, .int x1, .int x2, .int x3, .null]) (st' := [.ref 88]) hX ok_Model_sheet rfl ?_
            refine kx_getp hX ok_Model_sheet rfl (q := 103) (nx := 69) rfl ?_
            refine kx_go 2 (pc' := 71) (lv' := [.ref 88, .int x1, .int x2, .int x3, .null]) (st' := [.int x2, .int x1, .ref 103]) hX ok_Model_sheet rfl ?_
            refine kx_iast hX ok_Model_sheet (w := 4) (nx := 72) rfl (fun b11 => ?_)
            refine kx_lt (Q := fun J12 => kW G X m_Model_sheet C J12 0 0 72 [.ref 88, .int x1, .int x2, .int x3, .null] []) (fun J12 eJ12 => ?_)
            refine kx_go 1 (pc' := 73) (lv' := [.ref 88, .int x1, .int x2, .int x3, .null]) (st' := [.ref 88]) hX ok_Model_sheet rfl ?_
            refine kx_getp hX ok_Model_sheet rfl (q := 104) (nx := 76) rfl ?_
            refine kx_go 3 (pc' := if x2 = (0 : Int32) then 81 else 85) (lv' := [.ref 88, .int x1, .int x2, .int x3, .null]) (st' := [.int x1, .ref 104]) hX ok_Model_sheet rfl ?_
            refine kx_no c3 ?_
            refine kx_go 1 (pc' := 86) (lv' := [.ref 88, .int x1, .int x2, .int x3, .null]) (st' := [.int x3, .int x1, .ref 104]) hX ok_Model_sheet rfl ?_
            refine kx_iastc hX ok_Model_sheet (w := 4) (nx := 87) rfl b11 (k := x1.toNatClampNeg) rfl ?_
            refine kx_lt (Q := fun J13 => kW G X m_Model_sheet C J13 0 0 87 [.ref 88, .int x1, .int x2, .int x3, .null] []) (fun J13 eJ13 => ?_)
            refine kx_go 2 (pc' := 90) (lv' := [.ref 88, .int x1, .int x2, .int x3, .int (0 : Int32)]) (st' := []) hX ok_Model_sheet rfl ?_
            refine kx_weak (lv' := [.ref 88, .int x1, .null, .null, .int (0 : Int32)]) (by simp [xsub]) ?_
            refine kx_bind (fun p14 hp14 => ?_)
            refine kx_via (fun hk => s_L_Model_sheet_90 (G := G) (X := X) (by omega) hX C x1 1000 (0 : Int32) J13 p14 hk hp14) ?_
            refine kx_go 1 (pc' := 117) (lv' := [.null, .null, .null, .null, .null]) (st' := [.int (1 : Int32)]) hX ok_Model_sheet rfl ?_
            intro h; have h := Option.some.inj h; subst h
            exact kx_iret hX hE ok_Model_sheet (nx := 118) rfl rfl ⟨Nat.le_of_ble_eq_true rfl, Nat.le_of_ble_eq_true rfl⟩
          · refine kx_go 2 (pc' := 61) (lv' := [.ref 88, .int x1, .int x2, .int x3, .null]) (st' := [.int (1 : Int32), .ref 88]) hX ok_Model_sheet rfl ?_
            refine kx_bind (fun p15 hp15 => ?_)
            refine kx_V (r := 88) (as := [.int (1 : Int32)]) (by decide) hX ok_Model_sheet (nx := 64) rfl l_Model_129 (by decide) rfl (fun _ => s_Model_finds (G := G) (d := 0) (Nat.le_refl _) C I (1 : Int32) p15 hp15) (by omega) rfl (rest := []) rfl (Nat.le_of_ble_eq_true rfl) ⟨Nat.le_of_ble_eq_true rfl, Nat.le_of_ble_eq_true rfl⟩ ?_
            show _ → kW G X m_Model_sheet C p15.2 0 0 64 [.ref 88, .int x1, .int x2, .int x3, .null] [.int p15.1]
            intro h; have h := Option.some.inj h; subst h
            exact kx_iret hX hE ok_Model_sheet (nx := 65) rfl rfl ⟨Nat.le_of_ble_eq_true rfl, Nat.le_of_ble_eq_true rfl⟩
        · refine kx_go 2 (pc' := 45) (lv' := [.ref 88, .int x1, .int x2, .int x3, .null]) (st' := [.int (3 : Int32), .ref 88]) hX ok_Model_sheet rfl ?_
          refine kx_bind (fun p16 hp16 => ?_)
          refine kx_V (r := 88) (as := [.int (3 : Int32)]) (by decide) hX ok_Model_sheet (nx := 48) rfl l_Model_129 (by decide) rfl (fun _ => s_Model_finds (G := G) (d := 0) (Nat.le_refl _) C I (3 : Int32) p16 hp16) (by omega) rfl (rest := []) rfl (Nat.le_of_ble_eq_true rfl) ⟨Nat.le_of_ble_eq_true rfl, Nat.le_of_ble_eq_true rfl⟩ ?_
          show _ → kW G X m_Model_sheet C p16.2 0 0 48 [.ref 88, .int x1, .int x2, .int x3, .null] [.int p16.1]
          intro h; have h := Option.some.inj h; subst h
          exact kx_iret hX hE ok_Model_sheet (nx := 49) rfl rfl ⟨Nat.le_of_ble_eq_true rfl, Nat.le_of_ble_eq_true rfl⟩
      · refine kx_go 3 (pc' := if x2 = (16 : Int32) then 35 else 23) (lv' := [.ref 88, .int x1, .int x2, .int x3, .null]) (st' := []) hX ok_Model_sheet rfl ?_
        refine kx_ite (fun c17 => ?_) (fun c17 => ?_)
        · refine kx_go 2 (pc' := if x2 = (0 : Int32) then 49 else 39) (lv' := [.ref 88, .int x1, .int x2, .int x3, .null]) (st' := []) hX ok_Model_sheet rfl ?_
          refine kx_no c3 ?_
          refine kx_go 2 (pc' := if (0 : Int32) ≤ x3 then 49 else 43) (lv' := [.ref 88, .int x1, .int x2, .int x3, .null]) (st' := []) hX ok_Model_sheet rfl ?_
          refine kx_ite (fun c18 => ?_) (fun c18 => ?_)
          · refine kx_go 2 (pc' := if x2 = (0 : Int32) then 65 else 53) (lv' := [.ref 88, .int x1, .int x2, .int x3, .null]) (st' := []) hX ok_Model_sheet rfl ?_
            refine kx_no c3 ?_
            refine kx_go 3 (pc' := if x3 ≤ (40 : Int32) then 65 else 59) (lv' := [.ref 88, .int x1, .int x2, .int x3, .null]) (st' := []) hX ok_Model_sheet rfl ?_
            refine kx_ite (fun c19 => ?_) (fun c19 => ?_)
            · refine kx_go 1 (pc' := 66) (lv' := [.ref 88, .int x1, .int x2, .int x3, .null]) (st' := [.ref 88]) hX ok_Model_sheet rfl ?_
              refine kx_getp hX ok_Model_sheet rfl (q := 103) (nx := 69) rfl ?_
              refine kx_go 2 (pc' := 71) (lv' := [.ref 88, .int x1, .int x2, .int x3, .null]) (st' := [.int x2, .int x1, .ref 103]) hX ok_Model_sheet rfl ?_
              refine kx_iast hX ok_Model_sheet (w := 4) (nx := 72) rfl (fun b20 => ?_)
              refine kx_lt (Q := fun J21 => kW G X m_Model_sheet C J21 0 0 72 [.ref 88, .int x1, .int x2, .int x3, .null] []) (fun J21 eJ21 => ?_)
              refine kx_go 1 (pc' := 73) (lv' := [.ref 88, .int x1, .int x2, .int x3, .null]) (st' := [.ref 88]) hX ok_Model_sheet rfl ?_
              refine kx_getp hX ok_Model_sheet rfl (q := 104) (nx := 76) rfl ?_
              refine kx_go 3 (pc' := if x2 = (0 : Int32) then 81 else 85) (lv' := [.ref 88, .int x1, .int x2, .int x3, .null]) (st' := [.int x1, .ref 104]) hX ok_Model_sheet rfl ?_
              refine kx_no c3 ?_
              refine kx_go 1 (pc' := 86) (lv' := [.ref 88, .int x1, .int x2, .int x3, .null]) (st' := [.int x3, .int x1, .ref 104]) hX ok_Model_sheet rfl ?_
              refine kx_iastc hX ok_Model_sheet (w := 4) (nx := 87) rfl b20 (k := x1.toNatClampNeg) rfl ?_
              refine kx_lt (Q := fun J22 => kW G X m_Model_sheet C J22 0 0 87 [.ref 88, .int x1, .int x2, .int x3, .null] []) (fun J22 eJ22 => ?_)
              refine kx_go 2 (pc' := 90) (lv' := [.ref 88, .int x1, .int x2, .int x3, .int (0 : Int32)]) (st' := []) hX ok_Model_sheet rfl ?_
              refine kx_weak (lv' := [.ref 88, .int x1, .null, .null, .int (0 : Int32)]) (by simp [xsub]) ?_
              refine kx_bind (fun p23 hp23 => ?_)
              refine kx_via (fun hk => s_L_Model_sheet_90 (G := G) (X := X) (by omega) hX C x1 1000 (0 : Int32) J22 p23 hk hp23) ?_
              refine kx_go 1 (pc' := 117) (lv' := [.null, .null, .null, .null, .null]) (st' := [.int (1 : Int32)]) hX ok_Model_sheet rfl ?_
              intro h; have h := Option.some.inj h; subst h
              exact kx_iret hX hE ok_Model_sheet (nx := 118) rfl rfl ⟨Nat.le_of_ble_eq_true rfl, Nat.le_of_ble_eq_true rfl⟩
            · refine kx_go 2 (pc' := 61) (lv' := [.ref 88, .int x1, .int x2, .int x3, .null]) (st' := [.int (1 : Int32), .ref 88]) hX ok_Model_sheet rfl ?_
              refine kx_bind (fun p24 hp24 => ?_)
              refine kx_V (r := 88) (as := [.int (1 : Int32)]) (by decide) hX ok_Model_sheet (nx := 64) rfl l_Model_129 (by decide) rfl (fun _ => s_Model_finds (G := G) (d := 0) (Nat.le_refl _) C I (1 : Int32) p24 hp24) (by omega) rfl (rest := []) rfl (Nat.le_of_ble_eq_true rfl) ⟨Nat.le_of_ble_eq_true rfl, Nat.le_of_ble_eq_true rfl⟩ ?_
              show _ → kW G X m_Model_sheet C p24.2 0 0 64 [.ref 88, .int x1, .int x2, .int x3, .null] [.int p24.1]
              intro h; have h := Option.some.inj h; subst h
              exact kx_iret hX hE ok_Model_sheet (nx := 65) rfl rfl ⟨Nat.le_of_ble_eq_true rfl, Nat.le_of_ble_eq_true rfl⟩
          · refine kx_go 2 (pc' := 45) (lv' := [.ref 88, .int x1, .int x2, .int x3, .null]) (st' := [.int (3 : Int32), .ref 88]) hX ok_Model_sheet rfl ?_
            refine kx_bind (fun p25 hp25 => ?_)
            refine kx_V (r := 88) (as := [.int (3 : Int32)]) (by decide) hX ok_Model_sheet (nx := 48) rfl l_Model_129 (by decide) rfl (fun _ => s_Model_finds (G := G) (d := 0) (Nat.le_refl _) C I (3 : Int32) p25 hp25) (by omega) rfl (rest := []) rfl (Nat.le_of_ble_eq_true rfl) ⟨Nat.le_of_ble_eq_true rfl, Nat.le_of_ble_eq_true rfl⟩ ?_
            show _ → kW G X m_Model_sheet C p25.2 0 0 48 [.ref 88, .int x1, .int x2, .int x3, .null] [.int p25.1]
            intro h; have h := Option.some.inj h; subst h
            exact kx_iret hX hE ok_Model_sheet (nx := 49) rfl rfl ⟨Nat.le_of_ble_eq_true rfl, Nat.le_of_ble_eq_true rfl⟩
        · refine kx_go 3 (pc' := if x2 = (32 : Int32) then 35 else 29) (lv' := [.ref 88, .int x1, .int x2, .int x3, .null]) (st' := []) hX ok_Model_sheet rfl ?_
          refine kx_ite (fun c26 => ?_) (fun c26 => ?_)
          · refine kx_go 2 (pc' := if x2 = (0 : Int32) then 49 else 39) (lv' := [.ref 88, .int x1, .int x2, .int x3, .null]) (st' := []) hX ok_Model_sheet rfl ?_
            refine kx_no c3 ?_
            refine kx_go 2 (pc' := if (0 : Int32) ≤ x3 then 49 else 43) (lv' := [.ref 88, .int x1, .int x2, .int x3, .null]) (st' := []) hX ok_Model_sheet rfl ?_
            refine kx_ite (fun c27 => ?_) (fun c27 => ?_)
            · refine kx_go 2 (pc' := if x2 = (0 : Int32) then 65 else 53) (lv' := [.ref 88, .int x1, .int x2, .int x3, .null]) (st' := []) hX ok_Model_sheet rfl ?_
              refine kx_no c3 ?_
              refine kx_go 3 (pc' := if x3 ≤ (40 : Int32) then 65 else 59) (lv' := [.ref 88, .int x1, .int x2, .int x3, .null]) (st' := []) hX ok_Model_sheet rfl ?_
              refine kx_ite (fun c28 => ?_) (fun c28 => ?_)
              · refine kx_go 1 (pc' := 66) (lv' := [.ref 88, .int x1, .int x2, .int x3, .null]) (st' := [.ref 88]) hX ok_Model_sheet rfl ?_
                refine kx_getp hX ok_Model_sheet rfl (q := 103) (nx := 69) rfl ?_
                refine kx_go 2 (pc' := 71) (lv' := [.ref 88, .int x1, .int x2, .int x3, .null]) (st' := [.int x2, .int x1, .ref 103]) hX ok_Model_sheet rfl ?_
                refine kx_iast hX ok_Model_sheet (w := 4) (nx := 72) rfl (fun b29 => ?_)
                refine kx_lt (Q := fun J30 => kW G X m_Model_sheet C J30 0 0 72 [.ref 88, .int x1, .int x2, .int x3, .null] []) (fun J30 eJ30 => ?_)
                refine kx_go 1 (pc' := 73) (lv' := [.ref 88, .int x1, .int x2, .int x3, .null]) (st' := [.ref 88]) hX ok_Model_sheet rfl ?_
                refine kx_getp hX ok_Model_sheet rfl (q := 104) (nx := 76) rfl ?_
                refine kx_go 3 (pc' := if x2 = (0 : Int32) then 81 else 85) (lv' := [.ref 88, .int x1, .int x2, .int x3, .null]) (st' := [.int x1, .ref 104]) hX ok_Model_sheet rfl ?_
                refine kx_no c3 ?_
                refine kx_go 1 (pc' := 86) (lv' := [.ref 88, .int x1, .int x2, .int x3, .null]) (st' := [.int x3, .int x1, .ref 104]) hX ok_Model_sheet rfl ?_
                refine kx_iastc hX ok_Model_sheet (w := 4) (nx := 87) rfl b29 (k := x1.toNatClampNeg) rfl ?_
                refine kx_lt (Q := fun J31 => kW G X m_Model_sheet C J31 0 0 87 [.ref 88, .int x1, .int x2, .int x3, .null] []) (fun J31 eJ31 => ?_)
                refine kx_go 2 (pc' := 90) (lv' := [.ref 88, .int x1, .int x2, .int x3, .int (0 : Int32)]) (st' := []) hX ok_Model_sheet rfl ?_
                refine kx_weak (lv' := [.ref 88, .int x1, .null, .null, .int (0 : Int32)]) (by simp [xsub]) ?_
                refine kx_bind (fun p32 hp32 => ?_)
                refine kx_via (fun hk => s_L_Model_sheet_90 (G := G) (X := X) (by omega) hX C x1 1000 (0 : Int32) J31 p32 hk hp32) ?_
                refine kx_go 1 (pc' := 117) (lv' := [.null, .null, .null, .null, .null]) (st' := [.int (1 : Int32)]) hX ok_Model_sheet rfl ?_
                intro h; have h := Option.some.inj h; subst h
                exact kx_iret hX hE ok_Model_sheet (nx := 118) rfl rfl ⟨Nat.le_of_ble_eq_true rfl, Nat.le_of_ble_eq_true rfl⟩
              · refine kx_go 2 (pc' := 61) (lv' := [.ref 88, .int x1, .int x2, .int x3, .null]) (st' := [.int (1 : Int32), .ref 88]) hX ok_Model_sheet rfl ?_
                refine kx_bind (fun p33 hp33 => ?_)
                refine kx_V (r := 88) (as := [.int (1 : Int32)]) (by decide) hX ok_Model_sheet (nx := 64) rfl l_Model_129 (by decide) rfl (fun _ => s_Model_finds (G := G) (d := 0) (Nat.le_refl _) C I (1 : Int32) p33 hp33) (by omega) rfl (rest := []) rfl (Nat.le_of_ble_eq_true rfl) ⟨Nat.le_of_ble_eq_true rfl, Nat.le_of_ble_eq_true rfl⟩ ?_
                show _ → kW G X m_Model_sheet C p33.2 0 0 64 [.ref 88, .int x1, .int x2, .int x3, .null] [.int p33.1]
                intro h; have h := Option.some.inj h; subst h
                exact kx_iret hX hE ok_Model_sheet (nx := 65) rfl rfl ⟨Nat.le_of_ble_eq_true rfl, Nat.le_of_ble_eq_true rfl⟩
            · refine kx_go 2 (pc' := 45) (lv' := [.ref 88, .int x1, .int x2, .int x3, .null]) (st' := [.int (3 : Int32), .ref 88]) hX ok_Model_sheet rfl ?_
              refine kx_bind (fun p34 hp34 => ?_)
              refine kx_V (r := 88) (as := [.int (3 : Int32)]) (by decide) hX ok_Model_sheet (nx := 48) rfl l_Model_129 (by decide) rfl (fun _ => s_Model_finds (G := G) (d := 0) (Nat.le_refl _) C I (3 : Int32) p34 hp34) (by omega) rfl (rest := []) rfl (Nat.le_of_ble_eq_true rfl) ⟨Nat.le_of_ble_eq_true rfl, Nat.le_of_ble_eq_true rfl⟩ ?_
              show _ → kW G X m_Model_sheet C p34.2 0 0 48 [.ref 88, .int x1, .int x2, .int x3, .null] [.int p34.1]
              intro h; have h := Option.some.inj h; subst h
              exact kx_iret hX hE ok_Model_sheet (nx := 49) rfl rfl ⟨Nat.le_of_ble_eq_true rfl, Nat.le_of_ble_eq_true rfl⟩
          · refine kx_go 2 (pc' := 31) (lv' := [.ref 88, .int x1, .int x2, .int x3, .null]) (st' := [.int (1 : Int32), .ref 88]) hX ok_Model_sheet rfl ?_
            refine kx_bind (fun p35 hp35 => ?_)
            refine kx_V (r := 88) (as := [.int (1 : Int32)]) (by decide) hX ok_Model_sheet (nx := 34) rfl l_Model_129 (by decide) rfl (fun _ => s_Model_finds (G := G) (d := 0) (Nat.le_refl _) C I (1 : Int32) p35 hp35) (by omega) rfl (rest := []) rfl (Nat.le_of_ble_eq_true rfl) ⟨Nat.le_of_ble_eq_true rfl, Nat.le_of_ble_eq_true rfl⟩ ?_
            show _ → kW G X m_Model_sheet C p35.2 0 0 34 [.ref 88, .int x1, .int x2, .int x3, .null] [.int p35.1]
            intro h; have h := Option.some.inj h; subst h
            exact kx_iret hX hE ok_Model_sheet (nx := 35) rfl rfl ⟨Nat.le_of_ble_eq_true rfl, Nat.le_of_ble_eq_true rfl⟩
