def L_Wall_copyFrom_2  : Nat → Int32 → HC → HI → Option (HC × HI)
  | 0, _, _, _ => none
  | f + 1, x2, C, I => if (I 1 1) ≤ x2 then (some (C, I)) else (grd (bnd x2 8 && gS C (hT C x2.toNatClampNeg)) (Option.bind (M_Wall_makeOfKind_2 C I x2 (M_Vkind C (hT C x2.toNatClampNeg))) fun p3 => grd (bnd x2 8 && gS p3.1 (hU p3.1 x2.toNatClampNeg)) (grd (bnd x2 8 && gS p3.1 (hT p3.1 x2.toNatClampNeg)) (lt (M_VcopyFrom p3.1 p3.2 (hU p3.1 x2.toNatClampNeg) (hT p3.1 x2.toNatClampNeg)) fun p6 => L_Wall_copyFrom_2 f (x2 + (1 : Int32)) p3.1 p6))))
theorem s_L_Wall_copyFrom_2 {G : xG} {X : xC} {d : Nat} (hd : 6 ≤ d) (hX : xAmb G X m_Wall_copyFrom d 9 63)  : ∀ (f : Nat) (x2 : Int32) (C : HC) (I : HI) (r : HC × HI) (cells slots : Nat), (kW G X m_Wall_copyFrom r.1 r.2 (cells + f * 1) (slots + f * 7) 45 [.ref 32, .ref 1, .null] []) → cells + f * 1 ≤ 9 ∧ slots + f * 7 ≤ 63 → L_Wall_copyFrom_2 f x2 C I = some r → kW G X m_Wall_copyFrom C I cells slots 2 [.ref 32, .ref 1, .int x2] [] := by
  intro f
  induction f with
  | zero => intro x2 C I r cells slots hk hroom h; rw [L_Wall_copyFrom_2] at h; cases h
  | succ f ih =>
    intro x2 C I r cells slots hk hroom
    rw [L_Wall_copyFrom_2]
    refine kx_go 2 (pc' := 4) (lv' := [.ref 32, .ref 1, .int x2]) (st' := [.ref 1, .int x2]) hX ok_Wall_copyFrom rfl ?_
    refine kx_geti hX ok_Wall_copyFrom rfl (k := 1) (nx := 7) rfl ?_
    refine kx_go 1 (pc' := if (I 1 1) ≤ x2 then 45 else 10) (lv' := [.ref 32, .ref 1, .int x2]) (st' := []) hX ok_Wall_copyFrom rfl ?_
    refine kx_ite (fun c1 => ?_) (fun c1 => ?_)
    · refine kx_weak (lv' := [.ref 32, .ref 1, .null]) (by simp [xsub]) ?_
      intro h; have h := Option.some.inj h; subst h
      exact kx_widen (by omega) (by omega) hk
    · refine kx_go 3 (pc' := 13) (lv' := [.ref 32, .ref 1, .int x2]) (st' := [.ref 1, .int x2, .ref 32]) hX ok_Wall_copyFrom rfl ?_
      refine kx_getp hX ok_Wall_copyFrom rfl (q := 2) (nx := 16) rfl ?_
      refine kx_go 1 (pc' := 17) (lv' := [.ref 32, .ref 1, .int x2]) (st' := [.int x2, .ref 2, .int x2, .ref 32]) hX ok_Wall_copyFrom rfl ?_
      refine kx_aaT hX ok_Wall_copyFrom (nx := 18) rfl (fun bhq2 hq2 => ?_)
      refine kx_U (as := []) hq2 hX ok_Wall_copyFrom (nx := 21) rfl (l_Wall_52 (gS_k hq2)) (fun _ => s_Vkind (G := G) (d := 0) (Nat.le_refl _) C I (hT C x2.toNatClampNeg) hq2 _ rfl) (by omega) rfl (rest := [.int x2, .ref 32]) rfl (Nat.le_of_ble_eq_true rfl) ⟨by omega, by omega⟩ ?_
      show _ → kW G X m_Wall_copyFrom C I cells slots 21 [.ref 32, .ref 1, .int x2] [.int (M_Vkind C (hT C x2.toNatClampNeg)), .int x2, .ref 32]
      refine kx_bind (fun p3 hp3 => ?_)
      refine kx_V (r := 32) (as := [.int x2, .int (M_Vkind C (hT C x2.toNatClampNeg))]) (by decide) hX ok_Wall_copyFrom (nx := 24) rfl l_Wall_56 (by decide) rfl (fun _ => s_Wall_makeOfKind_2 (G := G) (d := 5) (Nat.le_refl _) C I x2 (M_Vkind C (hT C x2.toNatClampNeg)) p3 hp3) (by omega) rfl (rest := []) rfl (Nat.le_of_ble_eq_true rfl) ⟨by omega, by omega⟩ ?_
      show _ → kW G X m_Wall_copyFrom p3.1 p3.2 (cells + 1) (slots + 7) 24 [.ref 32, .ref 1, .int x2] []
      refine kx_go 1 (pc' := 25) (lv' := [.ref 32, .ref 1, .int x2]) (st' := [.ref 32]) hX ok_Wall_copyFrom rfl ?_
      refine kx_getp hX ok_Wall_copyFrom rfl (q := 33) (nx := 28) rfl ?_
      refine kx_go 1 (pc' := 29) (lv' := [.ref 32, .ref 1, .int x2]) (st' := [.int x2, .ref 33]) hX ok_Wall_copyFrom rfl ?_
      refine kx_aaU hX ok_Wall_copyFrom (nx := 30) rfl (fun bhq4 hq4 => ?_)
      refine kx_go 1 (pc' := 31) (lv' := [.ref 32, .ref 1, .int x2]) (st' := [.ref 1, .ref (hU p3.1 x2.toNatClampNeg)]) hX ok_Wall_copyFrom rfl ?_
      refine kx_getp hX ok_Wall_copyFrom rfl (q := 2) (nx := 34) rfl ?_
      refine kx_go 1 (pc' := 35) (lv' := [.ref 32, .ref 1, .int x2]) (st' := [.int x2, .ref 2, .ref (hU p3.1 x2.toNatClampNeg)]) hX ok_Wall_copyFrom rfl ?_
      refine kx_aaT hX ok_Wall_copyFrom (nx := 36) rfl (fun bhq5 hq5 => ?_)
      refine kx_lti (fun p6 hp6 => ?_)
      refine kx_U (as := [.ref (hT p3.1 x2.toNatClampNeg)]) hq4 hX ok_Wall_copyFrom (nx := 39) rfl (l_Wall_60 (gS_k hq4)) (fun _ => s_VcopyFrom (G := G) (d := 0) (Nat.le_refl _) p3.1 p3.2 (hU p3.1 x2.toNatClampNeg) (hT p3.1 x2.toNatClampNeg) hq4 hq5 p6 hp6) (by omega) rfl (rest := []) rfl (Nat.le_of_ble_eq_true rfl) ⟨by omega, by omega⟩ ?_
      show _ → kW G X m_Wall_copyFrom p3.1 p6 (cells + 1) (slots + 7) 39 [.ref 32, .ref 1, .int x2] []
      refine kx_go 2 (pc' := 2) (lv' := [.ref 32, .ref 1, .int (x2 + (1 : Int32))]) (st' := []) hX ok_Wall_copyFrom rfl ?_
      exact fun h => ih (x2 + (1 : Int32)) p3.1 p6 r (cells + 1) (slots + 7) (kx_widen (by omega) (by omega) hk) ⟨by omega, by omega⟩ h
def L_Wall_copyFrom_55  : Nat → Int32 → HI → Option (HI)
  | 0, _, _ => none
  | f + 1, x2, I => if (I 1 5) ≤ x2 then (some I) else (grd (bnd x2 12) (lt (xu I 42 x2.toNatClampNeg (I 11 x2.toNatClampNeg)) fun J3 => lt (xu J3 43 x2.toNatClampNeg (J3 12 x2.toNatClampNeg)) fun J4 => lt (xu J4 44 x2.toNatClampNeg (J4 13 x2.toNatClampNeg)) fun J5 => L_Wall_copyFrom_55 f (x2 + (1 : Int32)) J5))
theorem s_L_Wall_copyFrom_55 {G : xG} {X : xC} {d : Nat} (hd : 6 ≤ d) (hX : xAmb G X m_Wall_copyFrom d 9 63)  (C : HC) (cells slots : Nat) (hroom : cells ≤ 9 ∧ slots ≤ 63) : ∀ (f : Nat) (x2 : Int32) (I : HI) (r : HI), (kW G X m_Wall_copyFrom C r cells slots 105 [.ref 32, .ref 1, .null] []) → L_Wall_copyFrom_55 f x2 I = some r → kW G X m_Wall_copyFrom C I cells slots 55 [.ref 32, .ref 1, .int x2] [] := by
  intro f
  induction f with
  | zero => intro x2 I r hk h; rw [L_Wall_copyFrom_55] at h; cases h
  | succ f ih =>
    intro x2 I r hk
    rw [L_Wall_copyFrom_55]
    refine kx_go 2 (pc' := 57) (lv' := [.ref 32, .ref 1, .int x2]) (st' := [.ref 1, .int x2]) hX ok_Wall_copyFrom rfl ?_
    refine kx_geti hX ok_Wall_copyFrom rfl (k := 5) (nx := 60) rfl ?_
    refine kx_go 1 (pc' := if (I 1 5) ≤ x2 then 105 else 63) (lv' := [.ref 32, .ref 1, .int x2]) (st' := []) hX ok_Wall_copyFrom rfl ?_
    refine kx_ite (fun c1 => ?_) (fun c1 => ?_)
    · refine kx_weak (lv' := [.ref 32, .ref 1, .null]) (by simp [xsub]) ?_
      intro h; have h := Option.some.inj h; subst h
      exact hk
    · refine kx_go 1 (pc' := 64) (lv' := [.ref 32, .ref 1, .int x2]) (st' := [.ref 32]) hX ok_Wall_copyFrom rfl ?_
      refine kx_getp hX ok_Wall_copyFrom rfl (q := 42) (nx := 67) rfl ?_
      refine kx_go 2 (pc' := 69) (lv' := [.ref 32, .ref 1, .int x2]) (st' := [.ref 1, .int x2, .ref 42]) hX ok_Wall_copyFrom rfl ?_
      refine kx_getp hX ok_Wall_copyFrom rfl (q := 11) (nx := 72) rfl ?_
      refine kx_go 1 (pc' := 73) (lv' := [.ref 32, .ref 1, .int x2]) (st' := [.int x2, .ref 11, .int x2, .ref 42]) hX ok_Wall_copyFrom rfl ?_
      refine kx_iald hX ok_Wall_copyFrom (w := 12) (nx := 74) rfl (fun b2 => ?_)
      refine kx_iastc hX ok_Wall_copyFrom (w := 12) (nx := 75) rfl b2 (k := x2.toNatClampNeg) rfl ?_
      refine kx_lt (Q := fun J3 => kW G X m_Wall_copyFrom C J3 cells slots 75 [.ref 32, .ref 1, .int x2] []) (fun J3 eJ3 => ?_)
      refine kx_go 1 (pc' := 76) (lv' := [.ref 32, .ref 1, .int x2]) (st' := [.ref 32]) hX ok_Wall_copyFrom rfl ?_
      refine kx_getp hX ok_Wall_copyFrom rfl (q := 43) (nx := 79) rfl ?_
      refine kx_go 2 (pc' := 81) (lv' := [.ref 32, .ref 1, .int x2]) (st' := [.ref 1, .int x2, .ref 43]) hX ok_Wall_copyFrom rfl ?_
      refine kx_getp hX ok_Wall_copyFrom rfl (q := 12) (nx := 84) rfl ?_
      refine kx_go 1 (pc' := 85) (lv' := [.ref 32, .ref 1, .int x2]) (st' := [.int x2, .ref 12, .int x2, .ref 43]) hX ok_Wall_copyFrom rfl ?_
      refine kx_ialdc hX ok_Wall_copyFrom (w := 12) (nx := 86) rfl b2 (k := x2.toNatClampNeg) rfl ?_
      refine kx_iastc hX ok_Wall_copyFrom (w := 12) (nx := 87) rfl b2 (k := x2.toNatClampNeg) rfl ?_
      refine kx_lt (Q := fun J4 => kW G X m_Wall_copyFrom C J4 cells slots 87 [.ref 32, .ref 1, .int x2] []) (fun J4 eJ4 => ?_)
      refine kx_go 1 (pc' := 88) (lv' := [.ref 32, .ref 1, .int x2]) (st' := [.ref 32]) hX ok_Wall_copyFrom rfl ?_
      refine kx_getp hX ok_Wall_copyFrom rfl (q := 44) (nx := 91) rfl ?_
      refine kx_go 2 (pc' := 93) (lv' := [.ref 32, .ref 1, .int x2]) (st' := [.ref 1, .int x2, .ref 44]) hX ok_Wall_copyFrom rfl ?_
      refine kx_getp hX ok_Wall_copyFrom rfl (q := 13) (nx := 96) rfl ?_
      refine kx_go 1 (pc' := 97) (lv' := [.ref 32, .ref 1, .int x2]) (st' := [.int x2, .ref 13, .int x2, .ref 44]) hX ok_Wall_copyFrom rfl ?_
      refine kx_ialdc hX ok_Wall_copyFrom (w := 12) (nx := 98) rfl b2 (k := x2.toNatClampNeg) rfl ?_
      refine kx_iastc hX ok_Wall_copyFrom (w := 12) (nx := 99) rfl b2 (k := x2.toNatClampNeg) rfl ?_
      refine kx_lt (Q := fun J5 => kW G X m_Wall_copyFrom C J5 cells slots 99 [.ref 32, .ref 1, .int x2] []) (fun J5 eJ5 => ?_)
      refine kx_go 2 (pc' := 55) (lv' := [.ref 32, .ref 1, .int (x2 + (1 : Int32))]) (st' := []) hX ok_Wall_copyFrom rfl ?_
      exact fun h => ih (x2 + (1 : Int32)) J5 r hk h
def M_Wall_copyFrom (C : HC) (I : HI) : Option (HC × HI) := Option.bind (L_Wall_copyFrom_2 9 (0 : Int32) C I) fun p1 => lt (xu p1.2 32 1 (p1.2 1 1)) fun J2 => Option.bind (L_Wall_copyFrom_55 1000 (0 : Int32) J2) fun p3 => lt (xu p3 32 5 (p3 1 5)) fun J4 => grd (bcp (0 : Int32) (0 : Int32) (50 : Int32) 50 50) (lt (xrow J4 45 (va_cpy (J4 14) (J4 45) (0 : Int32).toNatClampNeg (0 : Int32).toNatClampNeg (50 : Int32).toNatClampNeg)) fun J5 => lt (xu J5 32 7 (J5 1 7)) fun J6 => Option.bind (M_Text_copyFrom_2 J6) fun p7 => Option.bind (M_Text_copyFrom_3 p7) fun p8 => grd (bcp (0 : Int32) (0 : Int32) (20 : Int32) 20 20) (lt (xrow p8 62 (va_cpy (p8 31) (p8 62) (0 : Int32).toNatClampNeg (0 : Int32).toNatClampNeg (20 : Int32).toNatClampNeg)) fun J9 => lt (xu J9 32 11 (J9 1 11)) fun J10 => lt (xu J10 32 12 (J10 1 12)) fun J11 => some (p1.1, J11)))
theorem s_Wall_copyFrom {G : xG} {d : Nat} (hd : 6 ≤ d) (C : HC) (I : HI)   (r : HC × HI) : M_Wall_copyFrom C I = some r → kM G d m_Wall_copyFrom [.ref 32, .ref 1] C I 9 63 none r.1 r.2 := by
  unfold M_Wall_copyFrom
  refine kM.of (by decide +kernel) (Nat.le_of_ble_eq_true rfl) (lv := [.ref 32, .ref 1, .null]) rfl (fun X hX hE => ?_)
  refine kx_go 2 (pc' := 2) (lv' := [.ref 32, .ref 1, .int (0 : Int32)]) (st' := []) hX ok_Wall_copyFrom rfl ?_
  refine kx_bind (fun p1 hp1 => ?_)
  refine kx_via (fun hk => s_L_Wall_copyFrom_2 (G := G) (X := X) (by omega) hX 9 (0 : Int32) C I p1 0 0 hk ⟨Nat.le_of_ble_eq_true rfl, Nat.le_of_ble_eq_true rfl⟩ hp1) ?_
  refine kx_go 2 (pc' := 47) (lv' := [.ref 32, .ref 1, .null]) (st' := [.ref 1, .ref 32]) hX ok_Wall_copyFrom rfl ?_
  refine kx_geti hX ok_Wall_copyFrom rfl (k := 1) (nx := 50) rfl ?_
  refine kx_puti hX ok_Wall_copyFrom rfl (k := 1) (nx := 53) rfl rfl ?_
  refine kx_lt (Q := fun J2 => kW G X m_Wall_copyFrom p1.1 J2 (0 + 9 * 1) (0 + 9 * 7) 53 [.ref 32, .ref 1, .null] []) (fun J2 eJ2 => ?_)
  refine kx_go 2 (pc' := 55) (lv' := [.ref 32, .ref 1, .int (0 : Int32)]) (st' := []) hX ok_Wall_copyFrom rfl ?_
  refine kx_bind (fun p3 hp3 => ?_)
  refine kx_via (fun hk => s_L_Wall_copyFrom_55 (G := G) (X := X) (by omega) hX p1.1 (0 + 9 * 1) (0 + 9 * 7) ⟨Nat.le_of_ble_eq_true rfl, Nat.le_of_ble_eq_true rfl⟩ 1000 (0 : Int32) J2 p3 hk hp3) ?_
  refine kx_go 2 (pc' := 107) (lv' := [.ref 32, .ref 1, .null]) (st' := [.ref 1, .ref 32]) hX ok_Wall_copyFrom rfl ?_
  refine kx_geti hX ok_Wall_copyFrom rfl (k := 5) (nx := 110) rfl ?_
  refine kx_puti hX ok_Wall_copyFrom rfl (k := 5) (nx := 113) rfl rfl ?_
  refine kx_lt (Q := fun J4 => kW G X m_Wall_copyFrom p1.1 J4 (0 + 9 * 1) (0 + 9 * 7) 113 [.ref 32, .ref 1, .null] []) (fun J4 eJ4 => ?_)
  refine kx_go 1 (pc' := 114) (lv' := [.ref 32, .ref 1, .null]) (st' := [.ref 1]) hX ok_Wall_copyFrom rfl ?_
  refine kx_getp hX ok_Wall_copyFrom rfl (q := 14) (nx := 117) rfl ?_
  refine kx_go 2 (pc' := 119) (lv' := [.ref 32, .ref 1, .null]) (st' := [.ref 32, .int (0 : Int32), .ref 14]) hX ok_Wall_copyFrom rfl ?_
  refine kx_getp hX ok_Wall_copyFrom rfl (q := 45) (nx := 122) rfl ?_
  refine kx_go 2 (pc' := 125) (lv' := [.ref 32, .ref 1, .null]) (st' := [.int (50 : Int32), .int (0 : Int32), .ref 45, .int (0 : Int32), .ref 14]) hX ok_Wall_copyFrom rfl ?_
  refine kx_copy (d := d) (kA_lit (r := 14) (w := 50) rfl) (kA_lit (r := 45) (w := 50) rfl) (by omega) hX ok_Wall_copyFrom l_Wall_67 (nx := 128) rfl (Nat.le_of_ble_eq_true rfl) ?_
  refine kx_lt (Q := fun J5 => kW G X m_Wall_copyFrom p1.1 J5 (0 + 9 * 1) (0 + 9 * 7) 128 [.ref 32, .ref 1, .null] []) (fun J5 eJ5 => ?_)
  refine kx_go 2 (pc' := 130) (lv' := [.ref 32, .ref 1, .null]) (st' := [.ref 1, .ref 32]) hX ok_Wall_copyFrom rfl ?_
  refine kx_geti hX ok_Wall_copyFrom rfl (k := 7) (nx := 133) rfl ?_
  refine kx_puti hX ok_Wall_copyFrom rfl (k := 7) (nx := 136) rfl rfl ?_
  refine kx_lt (Q := fun J6 => kW G X m_Wall_copyFrom p1.1 J6 (0 + 9 * 1) (0 + 9 * 7) 136 [.ref 32, .ref 1, .null] []) (fun J6 eJ6 => ?_)
  refine kx_go 1 (pc' := 137) (lv' := [.ref 32, .ref 1, .null]) (st' := [.ref 32]) hX ok_Wall_copyFrom rfl ?_
  refine kx_getp hX ok_Wall_copyFrom rfl (q := 46) (nx := 140) rfl ?_
  refine kx_go 1 (pc' := 141) (lv' := [.ref 32, .ref 1, .null]) (st' := [.int (0 : Int32), .ref 46]) hX ok_Wall_copyFrom rfl ?_
  refine kx_aaXc hX ok_Wall_copyFrom (nx := 142) rfl (by decide) rfl (q := 47) rfl ?_
  refine kx_go 1 (pc' := 143) (lv' := [.ref 32, .ref 1, .null]) (st' := [.ref 1, .ref 47]) hX ok_Wall_copyFrom rfl ?_
  refine kx_getp hX ok_Wall_copyFrom rfl (q := 15) (nx := 146) rfl ?_
  refine kx_go 1 (pc' := 147) (lv' := [.ref 32, .ref 1, .null]) (st' := [.int (0 : Int32), .ref 15, .ref 47]) hX ok_Wall_copyFrom rfl ?_
  refine kx_aaXc hX ok_Wall_copyFrom (nx := 148) rfl (by decide) rfl (q := 16) rfl ?_
  refine kx_bind (fun p7 hp7 => ?_)
  refine kx_V (r := 47) (as := [.ref 16]) (by decide) hX ok_Wall_copyFrom (nx := 151) rfl l_Wall_76 (by decide) rfl (fun _ => s_Text_copyFrom_2 (G := G) (d := 0) (Nat.le_refl _) p1.1 J6  p7 hp7) (by omega) rfl (rest := []) rfl (Nat.le_of_ble_eq_true rfl) ⟨Nat.le_of_ble_eq_true rfl, Nat.le_of_ble_eq_true rfl⟩ ?_
  show _ → kW G X m_Wall_copyFrom p1.1 p7 (0 + 9 * 1) (0 + 9 * 7) 151 [.ref 32, .ref 1, .null] []
  refine kx_go 1 (pc' := 152) (lv' := [.ref 32, .ref 1, .null]) (st' := [.ref 32]) hX ok_Wall_copyFrom rfl ?_
  refine kx_getp hX ok_Wall_copyFrom rfl (q := 46) (nx := 155) rfl ?_
  refine kx_go 1 (pc' := 156) (lv' := [.ref 32, .ref 1, .null]) (st' := [.int (1 : Int32), .ref 46]) hX ok_Wall_copyFrom rfl ?_
  refine kx_aaXc hX ok_Wall_copyFrom (nx := 157) rfl (by decide) rfl (q := 52) rfl ?_
  refine kx_go 1 (pc' := 158) (lv' := [.ref 32, .ref 1, .null]) (st' := [.ref 1, .ref 52]) hX ok_Wall_copyFrom rfl ?_
  refine kx_getp hX ok_Wall_copyFrom rfl (q := 15) (nx := 161) rfl ?_
  refine kx_go 1 (pc' := 162) (lv' := [.ref 32, .ref 1, .null]) (st' := [.int (1 : Int32), .ref 15, .ref 52]) hX ok_Wall_copyFrom rfl ?_
  refine kx_aaXc hX ok_Wall_copyFrom (nx := 163) rfl (by decide) rfl (q := 21) rfl ?_
  refine kx_bind (fun p8 hp8 => ?_)
  refine kx_V (r := 52) (as := [.ref 21]) (by decide) hX ok_Wall_copyFrom (nx := 166) rfl l_Wall_76 (by decide) rfl (fun _ => s_Text_copyFrom_3 (G := G) (d := 0) (Nat.le_refl _) p1.1 p7  p8 hp8) (by omega) rfl (rest := []) rfl (Nat.le_of_ble_eq_true rfl) ⟨Nat.le_of_ble_eq_true rfl, Nat.le_of_ble_eq_true rfl⟩ ?_
  show _ → kW G X m_Wall_copyFrom p1.1 p8 (0 + 9 * 1) (0 + 9 * 7) 166 [.ref 32, .ref 1, .null] []
  refine kx_go 1 (pc' := 167) (lv' := [.ref 32, .ref 1, .null]) (st' := [.ref 1]) hX ok_Wall_copyFrom rfl ?_
  refine kx_getp hX ok_Wall_copyFrom rfl (q := 31) (nx := 170) rfl ?_
  refine kx_go 2 (pc' := 172) (lv' := [.ref 32, .ref 1, .null]) (st' := [.ref 32, .int (0 : Int32), .ref 31]) hX ok_Wall_copyFrom rfl ?_
  refine kx_getp hX ok_Wall_copyFrom rfl (q := 62) (nx := 175) rfl ?_
  refine kx_go 2 (pc' := 178) (lv' := [.ref 32, .ref 1, .null]) (st' := [.int (20 : Int32), .int (0 : Int32), .ref 62, .int (0 : Int32), .ref 31]) hX ok_Wall_copyFrom rfl ?_
  refine kx_copy (d := d) (kA_lit (r := 31) (w := 20) rfl) (kA_lit (r := 62) (w := 20) rfl) (by omega) hX ok_Wall_copyFrom l_Wall_67 (nx := 181) rfl (Nat.le_of_ble_eq_true rfl) ?_
  refine kx_lt (Q := fun J9 => kW G X m_Wall_copyFrom p1.1 J9 (0 + 9 * 1) (0 + 9 * 7) 181 [.ref 32, .ref 1, .null] []) (fun J9 eJ9 => ?_)
  refine kx_go 2 (pc' := 183) (lv' := [.ref 32, .ref 1, .null]) (st' := [.ref 1, .ref 32]) hX ok_Wall_copyFrom rfl ?_
  refine kx_geti hX ok_Wall_copyFrom rfl (k := 11) (nx := 186) rfl ?_
  refine kx_puti hX ok_Wall_copyFrom rfl (k := 11) (nx := 189) rfl rfl ?_
  refine kx_lt (Q := fun J10 => kW G X m_Wall_copyFrom p1.1 J10 (0 + 9 * 1) (0 + 9 * 7) 189 [.ref 32, .ref 1, .null] []) (fun J10 eJ10 => ?_)
  refine kx_go 2 (pc' := 191) (lv' := [.ref 32, .ref 1, .null]) (st' := [.ref 1, .ref 32]) hX ok_Wall_copyFrom rfl ?_
  refine kx_geti hX ok_Wall_copyFrom rfl (k := 12) (nx := 194) rfl ?_
  refine kx_puti hX ok_Wall_copyFrom rfl (k := 12) (nx := 197) rfl rfl ?_
  refine kx_lt (Q := fun J11 => kW G X m_Wall_copyFrom p1.1 J11 (0 + 9 * 1) (0 + 9 * 7) 197 [.ref 32, .ref 1, .null] []) (fun J11 eJ11 => ?_)
  intro h; have h := Option.some.inj h; subst h
  exact kx_vret hX hE ok_Wall_copyFrom (nx := 198) rfl rfl ⟨Nat.le_of_ble_eq_true rfl, Nat.le_of_ble_eq_true rfl⟩
def M_H_image (C : HC) (I : HI) : Option (Int32 × HC × HI) := Option.bind (M_Wall_copyFrom C I) fun p1 => lt (xu p1.2 0 9 ((p1.2 0 9) + (1 : Int32))) fun J2 => some ((J2 0 9), p1.1, J2)
theorem s_H_image {G : xG} {d : Nat} (hd : 7 ≤ d) (C : HC) (I : HI)   (r : Int32 × HC × HI) : M_H_image C I = some r → kM G d m_H_image [.ref 0] C I 9 63 (some (.int r.1)) r.2.1 r.2.2 := by
  unfold M_H_image
  refine kM.of (by decide +kernel) (Nat.le_of_ble_eq_true rfl) (lv := [.ref 0]) rfl (fun X hX hE => ?_)
  refine kx_go 1 (pc' := 1) (lv' := [.ref 0]) (st' := [.ref 0]) hX ok_H_image rfl ?_
  refine kx_getp hX ok_H_image rfl (q := 32) (nx := 4) rfl ?_
  refine kx_go 1 (pc' := 5) (lv' := [.ref 0]) (st' := [.ref 0, .ref 32]) hX ok_H_image rfl ?_
  refine kx_getp hX ok_H_image rfl (q := 1) (nx := 8) rfl ?_
  refine kx_bind (fun p1 hp1 => ?_)
  refine kx_V (r := 32) (as := [.ref 1]) (by decide) hX ok_H_image (nx := 11) rfl l_H_279 (by decide) rfl (fun _ => s_Wall_copyFrom (G := G) (d := 6) (Nat.le_refl _) C I  p1 hp1) (by omega) rfl (rest := []) rfl (Nat.le_of_ble_eq_true rfl) ⟨Nat.le_of_ble_eq_true rfl, Nat.le_of_ble_eq_true rfl⟩ ?_
  show _ → kW G X m_H_image p1.1 p1.2 (0 + 9) (0 + 63) 11 [.ref 0] []
  refine kx_go 2 (pc' := 13) (lv' := [.ref 0]) (st' := [.ref 0, .ref 0]) hX ok_H_image rfl ?_
  refine kx_geti hX ok_H_image rfl (k := 9) (nx := 16) rfl ?_
  refine kx_go 2 (pc' := 18) (lv' := [.ref 0]) (st' := [.int ((p1.2 0 9) + (1 : Int32)), .ref 0]) hX ok_H_image rfl ?_
  refine kx_puti hX ok_H_image rfl (k := 9) (nx := 21) rfl rfl ?_
  refine kx_lt (Q := fun J2 => kW G X m_H_image p1.1 J2 (0 + 9) (0 + 63) 21 [.ref 0] []) (fun J2 eJ2 => ?_)
  refine kx_go 1 (pc' := 22) (lv' := [.ref 0]) (st' := [.ref 0]) hX ok_H_image rfl ?_
  refine kx_geti hX ok_H_image rfl (k := 9) (nx := 25) rfl ?_
  intro h; have h := Option.some.inj h; subst h
  exact kx_iret hX hE ok_H_image (nx := 26) rfl rfl ⟨Nat.le_of_ble_eq_true rfl, Nat.le_of_ble_eq_true rfl⟩
def L_Text_copyFrom_4_10  : Nat → Int32 → HI → Option (HI)
  | 0, _, _ => none
  | f + 1, x2, I => if (I 47 2) ≤ x2 then (some I) else (grd (bnd x2 50) (lt (xu I 17 x2.toNatClampNeg (I 48 x2.toNatClampNeg)) fun J3 => lt (xu J3 18 x2.toNatClampNeg (J3 49 x2.toNatClampNeg)) fun J4 => L_Text_copyFrom_4_10 f (x2 + (1 : Int32)) J4))
theorem s_L_Text_copyFrom_4_10 {G : xG} {X : xC} {d : Nat} (hd : 0 ≤ d) (hX : xAmb G X m_Text_copyFrom d 0 0)  (C : HC) : ∀ (f : Nat) (x2 : Int32) (I : HI) (r : HI), (kW G X m_Text_copyFrom C r 0 0 48 [.null, .null, .null] []) → L_Text_copyFrom_4_10 f x2 I = some r → kW G X m_Text_copyFrom C I 0 0 10 [.ref 16, .ref 47, .int x2] [] := by
  intro f
  induction f with
  | zero => intro x2 I r hk h; rw [L_Text_copyFrom_4_10] at h; cases h
  | succ f ih =>
    intro x2 I r hk
    rw [L_Text_copyFrom_4_10]
    refine kx_go 2 (pc' := 12) (lv' := [.ref 16, .ref 47, .int x2]) (st' := [.ref 47, .int x2]) hX ok_Text_copyFrom rfl ?_
    refine kx_geti hX ok_Text_copyFrom rfl (k := 2) (nx := 15) rfl ?_
    refine kx_go 1 (pc' := if (I 47 2) ≤ x2 then 48 else 18) (lv' := [.ref 16, .ref 47, .int x2]) (st' := []) hX ok_Text_copyFrom rfl ?_
    refine kx_ite (fun c1 => ?_) (fun c1 => ?_)
    · refine kx_weak (lv' := [.null, .null, .null]) (by simp [xsub]) ?_
      intro h; have h := Option.some.inj h; subst h
      exact hk
    · refine kx_go 1 (pc' := 19) (lv' := [.ref 16, .ref 47, .int x2]) (st' := [.ref 16]) hX ok_Text_copyFrom rfl ?_
      refine kx_getp hX ok_Text_copyFrom rfl (q := 17) (nx := 22) rfl ?_
      refine kx_go 2 (pc' := 24) (lv' := [.ref 16, .ref 47, .int x2]) (st' := [.ref 47, .int x2, .ref 17]) hX ok_Text_copyFrom rfl ?_
      refine kx_getp hX ok_Text_copyFrom rfl (q := 48) (nx := 27) rfl ?_
      refine kx_go 1 (pc' := 28) (lv' := [.ref 16, .ref 47, .int x2]) (st' := [.int x2, .ref 48, .int x2, .ref 17]) hX ok_Text_copyFrom rfl ?_
      refine kx_iald hX ok_Text_copyFrom (w := 50) (nx := 29) rfl (fun b2 => ?_)
      refine kx_iastc hX ok_Text_copyFrom (w := 50) (nx := 30) rfl b2 (k := x2.toNatClampNeg) rfl ?_
      refine kx_lt (Q := fun J3 => kW G X m_Text_copyFrom C J3 0 0 30 [.ref 16, .ref 47, .int x2] []) (fun J3 eJ3 => ?_)
      refine kx_go 1 (pc' := 31) (lv' := [.ref 16, .ref 47, .int x2]) (st' := [.ref 16]) hX ok_Text_copyFrom rfl ?_
      refine kx_getp hX ok_Text_copyFrom rfl (q := 18) (nx := 34) rfl ?_
      refine kx_go 2 (pc' := 36) (lv' := [.ref 16, .ref 47, .int x2]) (st' := [.ref 47, .int x2, .ref 18]) hX ok_Text_copyFrom rfl ?_
      refine kx_getp hX ok_Text_copyFrom rfl (q := 49) (nx := 39) rfl ?_
      refine kx_go 1 (pc' := 40) (lv' := [.ref 16, .ref 47, .int x2]) (st' := [.int x2, .ref 49, .int x2, .ref 18]) hX ok_Text_copyFrom rfl ?_
      refine kx_ialdc hX ok_Text_copyFrom (w := 50) (nx := 41) rfl b2 (k := x2.toNatClampNeg) rfl ?_
      refine kx_iastc hX ok_Text_copyFrom (w := 50) (nx := 42) rfl b2 (k := x2.toNatClampNeg) rfl ?_
      refine kx_lt (Q := fun J4 => kW G X m_Text_copyFrom C J4 0 0 42 [.ref 16, .ref 47, .int x2] []) (fun J4 eJ4 => ?_)
      refine kx_go 2 (pc' := 10) (lv' := [.ref 16, .ref 47, .int (x2 + (1 : Int32))]) (st' := []) hX ok_Text_copyFrom rfl ?_
      exact fun h => ih (x2 + (1 : Int32)) J4 r hk h
def M_Text_copyFrom_4 (I : HI) : Option (HI) := lt (xu I 16 2 (I 47 2)) fun J1 => Option.bind (L_Text_copyFrom_4_10 1000 (0 : Int32) J1) fun p2 => some p2
theorem s_Text_copyFrom_4 {G : xG} {d : Nat} (hd : 0 ≤ d) (C : HC) (I : HI)   (r : HI) : M_Text_copyFrom_4 I = some r → kM G d m_Text_copyFrom [.ref 16, .ref 47] C I 0 0 none C r := by
  unfold M_Text_copyFrom_4
  refine kM.of (by decide +kernel) (Nat.le_of_ble_eq_true rfl) (lv := [.ref 16, .ref 47, .null]) rfl (fun X hX hE => ?_)
  refine kx_go 2 (pc' := 2) (lv' := [.ref 16, .ref 47, .null]) (st' := [.ref 47, .ref 16]) hX ok_Text_copyFrom rfl ?_
  refine kx_geti hX ok_Text_copyFrom rfl (k := 2) (nx := 5) rfl ?_
  refine kx_puti hX ok_Text_copyFrom rfl (k := 2) (nx := 8) rfl rfl ?_
  refine kx_lt (Q := fun J1 => kW G X m_Text_copyFrom C J1 0 0 8 [.ref 16, .ref 47, .null] []) (fun J1 eJ1 => ?_)
  refine kx_go 2 (pc' := 10) (lv' := [.ref 16, .ref 47, .int (0 : Int32)]) (st' := []) hX ok_Text_copyFrom rfl ?_
  refine kx_bind (fun p2 hp2 => ?_)
  refine kx_via (fun hk => s_L_Text_copyFrom_4_10 (G := G) (X := X) (by omega) hX C 1000 (0 : Int32) J1 p2 hk hp2) ?_
  intro h; have h := Option.some.inj h; subst h
  exact kx_vret hX hE ok_Text_copyFrom (nx := 49) rfl rfl ⟨Nat.le_of_ble_eq_true rfl, Nat.le_of_ble_eq_true rfl⟩
def L_Text_copyFrom_5_10  : Nat → Int32 → HI → Option (HI)
  | 0, _, _ => none
  | f + 1, x2, I => if (I 52 2) ≤ x2 then (some I) else (grd (bnd x2 50) (lt (xu I 22 x2.toNatClampNeg (I 53 x2.toNatClampNeg)) fun J3 => lt (xu J3 23 x2.toNatClampNeg (J3 54 x2.toNatClampNeg)) fun J4 => L_Text_copyFrom_5_10 f (x2 + (1 : Int32)) J4))
theorem s_L_Text_copyFrom_5_10 {G : xG} {X : xC} {d : Nat} (hd : 0 ≤ d) (hX : xAmb G X m_Text_copyFrom d 0 0)  (C : HC) : ∀ (f : Nat) (x2 : Int32) (I : HI) (r : HI), (kW G X m_Text_copyFrom C r 0 0 48 [.null, .null, .null] []) → L_Text_copyFrom_5_10 f x2 I = some r → kW G X m_Text_copyFrom C I 0 0 10 [.ref 21, .ref 52, .int x2] [] := by
  intro f
  induction f with
  | zero => intro x2 I r hk h; rw [L_Text_copyFrom_5_10] at h; cases h
  | succ f ih =>
    intro x2 I r hk
    rw [L_Text_copyFrom_5_10]
    refine kx_go 2 (pc' := 12) (lv' := [.ref 21, .ref 52, .int x2]) (st' := [.ref 52, .int x2]) hX ok_Text_copyFrom rfl ?_
    refine kx_geti hX ok_Text_copyFrom rfl (k := 2) (nx := 15) rfl ?_
    refine kx_go 1 (pc' := if (I 52 2) ≤ x2 then 48 else 18) (lv' := [.ref 21, .ref 52, .int x2]) (st' := []) hX ok_Text_copyFrom rfl ?_
    refine kx_ite (fun c1 => ?_) (fun c1 => ?_)
    · refine kx_weak (lv' := [.null, .null, .null]) (by simp [xsub]) ?_
      intro h; have h := Option.some.inj h; subst h
      exact hk
    · refine kx_go 1 (pc' := 19) (lv' := [.ref 21, .ref 52, .int x2]) (st' := [.ref 21]) hX ok_Text_copyFrom rfl ?_
      refine kx_getp hX ok_Text_copyFrom rfl (q := 22) (nx := 22) rfl ?_
      refine kx_go 2 (pc' := 24) (lv' := [.ref 21, .ref 52, .int x2]) (st' := [.ref 52, .int x2, .ref 22]) hX ok_Text_copyFrom rfl ?_
      refine kx_getp hX ok_Text_copyFrom rfl (q := 53) (nx := 27) rfl ?_
      refine kx_go 1 (pc' := 28) (lv' := [.ref 21, .ref 52, .int x2]) (st' := [.int x2, .ref 53, .int x2, .ref 22]) hX ok_Text_copyFrom rfl ?_
      refine kx_iald hX ok_Text_copyFrom (w := 50) (nx := 29) rfl (fun b2 => ?_)
      refine kx_iastc hX ok_Text_copyFrom (w := 50) (nx := 30) rfl b2 (k := x2.toNatClampNeg) rfl ?_
      refine kx_lt (Q := fun J3 => kW G X m_Text_copyFrom C J3 0 0 30 [.ref 21, .ref 52, .int x2] []) (fun J3 eJ3 => ?_)
      refine kx_go 1 (pc' := 31) (lv' := [.ref 21, .ref 52, .int x2]) (st' := [.ref 21]) hX ok_Text_copyFrom rfl ?_
      refine kx_getp hX ok_Text_copyFrom rfl (q := 23) (nx := 34) rfl ?_
      refine kx_go 2 (pc' := 36) (lv' := [.ref 21, .ref 52, .int x2]) (st' := [.ref 52, .int x2, .ref 23]) hX ok_Text_copyFrom rfl ?_
      refine kx_getp hX ok_Text_copyFrom rfl (q := 54) (nx := 39) rfl ?_
      refine kx_go 1 (pc' := 40) (lv' := [.ref 21, .ref 52, .int x2]) (st' := [.int x2, .ref 54, .int x2, .ref 23]) hX ok_Text_copyFrom rfl ?_
      refine kx_ialdc hX ok_Text_copyFrom (w := 50) (nx := 41) rfl b2 (k := x2.toNatClampNeg) rfl ?_
      refine kx_iastc hX ok_Text_copyFrom (w := 50) (nx := 42) rfl b2 (k := x2.toNatClampNeg) rfl ?_
      refine kx_lt (Q := fun J4 => kW G X m_Text_copyFrom C J4 0 0 42 [.ref 21, .ref 52, .int x2] []) (fun J4 eJ4 => ?_)
      refine kx_go 2 (pc' := 10) (lv' := [.ref 21, .ref 52, .int (x2 + (1 : Int32))]) (st' := []) hX ok_Text_copyFrom rfl ?_
      exact fun h => ih (x2 + (1 : Int32)) J4 r hk h
def M_Text_copyFrom_5 (I : HI) : Option (HI) := lt (xu I 21 2 (I 52 2)) fun J1 => Option.bind (L_Text_copyFrom_5_10 1000 (0 : Int32) J1) fun p2 => some p2
theorem s_Text_copyFrom_5 {G : xG} {d : Nat} (hd : 0 ≤ d) (C : HC) (I : HI)   (r : HI) : M_Text_copyFrom_5 I = some r → kM G d m_Text_copyFrom [.ref 21, .ref 52] C I 0 0 none C r := by
  unfold M_Text_copyFrom_5
  refine kM.of (by decide +kernel) (Nat.le_of_ble_eq_true rfl) (lv := [.ref 21, .ref 52, .null]) rfl (fun X hX hE => ?_)
  refine kx_go 2 (pc' := 2) (lv' := [.ref 21, .ref 52, .null]) (st' := [.ref 52, .ref 21]) hX ok_Text_copyFrom rfl ?_
  refine kx_geti hX ok_Text_copyFrom rfl (k := 2) (nx := 5) rfl ?_
  refine kx_puti hX ok_Text_copyFrom rfl (k := 2) (nx := 8) rfl rfl ?_
  refine kx_lt (Q := fun J1 => kW G X m_Text_copyFrom C J1 0 0 8 [.ref 21, .ref 52, .null] []) (fun J1 eJ1 => ?_)
  refine kx_go 2 (pc' := 10) (lv' := [.ref 21, .ref 52, .int (0 : Int32)]) (st' := []) hX ok_Text_copyFrom rfl ?_
  refine kx_bind (fun p2 hp2 => ?_)
  refine kx_via (fun hk => s_L_Text_copyFrom_5_10 (G := G) (X := X) (by omega) hX C 1000 (0 : Int32) J1 p2 hk hp2) ?_
  intro h; have h := Option.some.inj h; subst h
  exact kx_vret hX hE ok_Text_copyFrom (nx := 49) rfl rfl ⟨Nat.le_of_ble_eq_true rfl, Nat.le_of_ble_eq_true rfl⟩
def L_Wall_copyFrom_2_2  : Nat → Int32 → HC → HI → Option (HC × HI)
  | 0, _, _, _ => none
  | f + 1, x2, C, I => if (I 32 1) ≤ x2 then (some (C, I)) else (grd (bnd x2 8 && gS C (hU C x2.toNatClampNeg)) (Option.bind (M_Wall_makeOfKind C I x2 (M_Vkind C (hU C x2.toNatClampNeg))) fun p3 => grd (bnd x2 8 && gS p3.1 (hT p3.1 x2.toNatClampNeg)) (grd (bnd x2 8 && gS p3.1 (hU p3.1 x2.toNatClampNeg)) (lt (M_VcopyFrom p3.1 p3.2 (hT p3.1 x2.toNatClampNeg) (hU p3.1 x2.toNatClampNeg)) fun p6 => L_Wall_copyFrom_2_2 f (x2 + (1 : Int32)) p3.1 p6))))
theorem s_L_Wall_copyFrom_2_2 {G : xG} {X : xC} {d : Nat} (hd : 6 ≤ d) (hX : xAmb G X m_Wall_copyFrom d 9 63)  : ∀ (f : Nat) (x2 : Int32) (C : HC) (I : HI) (r : HC × HI) (cells slots : Nat), (kW G X m_Wall_copyFrom r.1 r.2 (cells + f * 1) (slots + f * 7) 45 [.ref 1, .ref 32, .null] []) → cells + f * 1 ≤ 9 ∧ slots + f * 7 ≤ 63 → L_Wall_copyFrom_2_2 f x2 C I = some r → kW G X m_Wall_copyFrom C I cells slots 2 [.ref 1, .ref 32, .int x2] [] := by
  intro f
  induction f with
  | zero => intro x2 C I r cells slots hk hroom h; rw [L_Wall_copyFrom_2_2] at h; cases h
  | succ f ih =>
    intro x2 C I r cells slots hk hroom
    rw [L_Wall_copyFrom_2_2]
    refine kx_go 2 (pc' := 4) (lv' := [.ref 1, .ref 32, .int x2]) (st' := [.ref 32, .int x2]) hX ok_Wall_copyFrom rfl ?_
    refine kx_geti hX ok_Wall_copyFrom rfl (k := 1) (nx := 7) rfl ?_
    refine kx_go 1 (pc' := if (I 32 1) ≤ x2 then 45 else 10) (lv' := [.ref 1, .ref 32, .int x2]) (st' := []) hX ok_Wall_copyFrom rfl ?_
    refine kx_ite (fun c1 => ?_) (fun c1 => ?_)
    · refine kx_weak (lv' := [.ref 1, .ref 32, .null]) (by simp [xsub]) ?_
      intro h; have h := Option.some.inj h; subst h
      exact kx_widen (by omega) (by omega) hk
    · refine kx_go 3 (pc' := 13) (lv' := [.ref 1, .ref 32, .int x2]) (st' := [.ref 32, .int x2, .ref 1]) hX ok_Wall_copyFrom rfl ?_
      refine kx_getp hX ok_Wall_copyFrom rfl (q := 33) (nx := 16) rfl ?_
      refine kx_go 1 (pc' := 17) (lv' := [.ref 1, .ref 32, .int x2]) (st' := [.int x2, .ref 33, .int x2, .ref 1]) hX ok_Wall_copyFrom rfl ?_
      refine kx_aaU hX ok_Wall_copyFrom (nx := 18) rfl (fun bhq2 hq2 => ?_)
      refine kx_U (as := []) hq2 hX ok_Wall_copyFrom (nx := 21) rfl (l_Wall_52 (gS_k hq2)) (fun _ => s_Vkind (G := G) (d := 0) (Nat.le_refl _) C I (hU C x2.toNatClampNeg) hq2 _ rfl) (by omega) rfl (rest := [.int x2, .ref 1]) rfl (Nat.le_of_ble_eq_true rfl) ⟨by omega, by omega⟩ ?_
      show _ → kW G X m_Wall_copyFrom C I cells slots 21 [.ref 1, .ref 32, .int x2] [.int (M_Vkind C (hU C x2.toNatClampNeg)), .int x2, .ref 1]
      refine kx_bind (fun p3 hp3 => ?_)
      refine kx_V (r := 1) (as := [.int x2, .int (M_Vkind C (hU C x2.toNatClampNeg))]) (by decide) hX ok_Wall_copyFrom (nx := 24) rfl l_Wall_56 (by decide) rfl (fun _ => s_Wall_makeOfKind (G := G) (d := 5) (Nat.le_refl _) C I x2 (M_Vkind C (hU C x2.toNatClampNeg)) p3 hp3) (by omega) rfl (rest := []) rfl (Nat.le_of_ble_eq_true rfl) ⟨by omega, by omega⟩ ?_
      show _ → kW G X m_Wall_copyFrom p3.1 p3.2 (cells + 1) (slots + 7) 24 [.ref 1, .ref 32, .int x2] []
      refine kx_go 1 (pc' := 25) (lv' := [.ref 1, .ref 32, .int x2]) (st' := [.ref 1]) hX ok_Wall_copyFrom rfl ?_
      refine kx_getp hX ok_Wall_copyFrom rfl (q := 2) (nx := 28) rfl ?_
      refine kx_go 1 (pc' := 29) (lv' := [.ref 1, .ref 32, .int x2]) (st' := [.int x2, .ref 2]) hX ok_Wall_copyFrom rfl ?_
      refine kx_aaT hX ok_Wall_copyFrom (nx := 30) rfl (fun bhq4 hq4 => ?_)
      refine kx_go 1 (pc' := 31) (lv' := [.ref 1, .ref 32, .int x2]) (st' := [.ref 32, .ref (hT p3.1 x2.toNatClampNeg)]) hX ok_Wall_copyFrom rfl ?_
      refine kx_getp hX ok_Wall_copyFrom rfl (q := 33) (nx := 34) rfl ?_
      refine kx_go 1 (pc' := 35) (lv' := [.ref 1, .ref 32, .int x2]) (st' := [.int x2, .ref 33, .ref (hT p3.1 x2.toNatClampNeg)]) hX ok_Wall_copyFrom rfl ?_
      refine kx_aaU hX ok_Wall_copyFrom (nx := 36) rfl (fun bhq5 hq5 => ?_)
      refine kx_lti (fun p6 hp6 => ?_)
      refine kx_U (as := [.ref (hU p3.1 x2.toNatClampNeg)]) hq4 hX ok_Wall_copyFrom (nx := 39) rfl (l_Wall_60 (gS_k hq4)) (fun _ => s_VcopyFrom (G := G) (d := 0) (Nat.le_refl _) p3.1 p3.2 (hT p3.1 x2.toNatClampNeg) (hU p3.1 x2.toNatClampNeg) hq4 hq5 p6 hp6) (by omega) rfl (rest := []) rfl (Nat.le_of_ble_eq_true rfl) ⟨by omega, by omega⟩ ?_
      show _ → kW G X m_Wall_copyFrom p3.1 p6 (cells + 1) (slots + 7) 39 [.ref 1, .ref 32, .int x2] []
      refine kx_go 2 (pc' := 2) (lv' := [.ref 1, .ref 32, .int (x2 + (1 : Int32))]) (st' := []) hX ok_Wall_copyFrom rfl ?_
      exact fun h => ih (x2 + (1 : Int32)) p3.1 p6 r (cells + 1) (slots + 7) (kx_widen (by omega) (by omega) hk) ⟨by omega, by omega⟩ h
def L_Wall_copyFrom_2_55  : Nat → Int32 → HI → Option (HI)
  | 0, _, _ => none
  | f + 1, x2, I => if (I 32 5) ≤ x2 then (some I) else (grd (bnd x2 12) (lt (xu I 11 x2.toNatClampNeg (I 42 x2.toNatClampNeg)) fun J3 => lt (xu J3 12 x2.toNatClampNeg (J3 43 x2.toNatClampNeg)) fun J4 => lt (xu J4 13 x2.toNatClampNeg (J4 44 x2.toNatClampNeg)) fun J5 => L_Wall_copyFrom_2_55 f (x2 + (1 : Int32)) J5))
theorem s_L_Wall_copyFrom_2_55 {G : xG} {X : xC} {d : Nat} (hd : 6 ≤ d) (hX : xAmb G X m_Wall_copyFrom d 9 63)  (C : HC) (cells slots : Nat) (hroom : cells ≤ 9 ∧ slots ≤ 63) : ∀ (f : Nat) (x2 : Int32) (I : HI) (r : HI), (kW G X m_Wall_copyFrom C r cells slots 105 [.ref 1, .ref 32, .null] []) → L_Wall_copyFrom_2_55 f x2 I = some r → kW G X m_Wall_copyFrom C I cells slots 55 [.ref 1, .ref 32, .int x2] [] := by
  intro f
  induction f with
  | zero => intro x2 I r hk h; rw [L_Wall_copyFrom_2_55] at h; cases h
  | succ f ih =>
    intro x2 I r hk
    rw [L_Wall_copyFrom_2_55]
    refine kx_go 2 (pc' := 57) (lv' := [.ref 1, .ref 32, .int x2]) (st' := [.ref 32, .int x2]) hX ok_Wall_copyFrom rfl ?_
    refine kx_geti hX ok_Wall_copyFrom rfl (k := 5) (nx := 60) rfl ?_
    refine kx_go 1 (pc' := if (I 32 5) ≤ x2 then 105 else 63) (lv' := [.ref 1, .ref 32, .int x2]) (st' := []) hX ok_Wall_copyFrom rfl ?_
    refine kx_ite (fun c1 => ?_) (fun c1 => ?_)
    · refine kx_weak (lv' := [.ref 1, .ref 32, .null]) (by simp [xsub]) ?_
      intro h; have h := Option.some.inj h; subst h
      exact hk
    · refine kx_go 1 (pc' := 64) (lv' := [.ref 1, .ref 32, .int x2]) (st' := [.ref 1]) hX ok_Wall_copyFrom rfl ?_
      refine kx_getp hX ok_Wall_copyFrom rfl (q := 11) (nx := 67) rfl ?_
      refine kx_go 2 (pc' := 69) (lv' := [.ref 1, .ref 32, .int x2]) (st' := [.ref 32, .int x2, .ref 11]) hX ok_Wall_copyFrom rfl ?_
      refine kx_getp hX ok_Wall_copyFrom rfl (q := 42) (nx := 72) rfl ?_
      refine kx_go 1 (pc' := 73) (lv' := [.ref 1, .ref 32, .int x2]) (st' := [.int x2, .ref 42, .int x2, .ref 11]) hX ok_Wall_copyFrom rfl ?_
      refine kx_iald hX ok_Wall_copyFrom (w := 12) (nx := 74) rfl (fun b2 => ?_)
      refine kx_iastc hX ok_Wall_copyFrom (w := 12) (nx := 75) rfl b2 (k := x2.toNatClampNeg) rfl ?_
      refine kx_lt (Q := fun J3 => kW G X m_Wall_copyFrom C J3 cells slots 75 [.ref 1, .ref 32, .int x2] []) (fun J3 eJ3 => ?_)
      refine kx_go 1 (pc' := 76) (lv' := [.ref 1, .ref 32, .int x2]) (st' := [.ref 1]) hX ok_Wall_copyFrom rfl ?_
      refine kx_getp hX ok_Wall_copyFrom rfl (q := 12) (nx := 79) rfl ?_
      refine kx_go 2 (pc' := 81) (lv' := [.ref 1, .ref 32, .int x2]) (st' := [.ref 32, .int x2, .ref 12]) hX ok_Wall_copyFrom rfl ?_
      refine kx_getp hX ok_Wall_copyFrom rfl (q := 43) (nx := 84) rfl ?_
      refine kx_go 1 (pc' := 85) (lv' := [.ref 1, .ref 32, .int x2]) (st' := [.int x2, .ref 43, .int x2, .ref 12]) hX ok_Wall_copyFrom rfl ?_
      refine kx_ialdc hX ok_Wall_copyFrom (w := 12) (nx := 86) rfl b2 (k := x2.toNatClampNeg) rfl ?_
      refine kx_iastc hX ok_Wall_copyFrom (w := 12) (nx := 87) rfl b2 (k := x2.toNatClampNeg) rfl ?_
      refine kx_lt (Q := fun J4 => kW G X m_Wall_copyFrom C J4 cells slots 87 [.ref 1, .ref 32, .int x2] []) (fun J4 eJ4 => ?_)
      refine kx_go 1 (pc' := 88) (lv' := [.ref 1, .ref 32, .int x2]) (st' := [.ref 1]) hX ok_Wall_copyFrom rfl ?_
      refine kx_getp hX ok_Wall_copyFrom rfl (q := 13) (nx := 91) rfl ?_
      refine kx_go 2 (pc' := 93) (lv' := [.ref 1, .ref 32, .int x2]) (st' := [.ref 32, .int x2, .ref 13]) hX ok_Wall_copyFrom rfl ?_
      refine kx_getp hX ok_Wall_copyFrom rfl (q := 44) (nx := 96) rfl ?_
      refine kx_go 1 (pc' := 97) (lv' := [.ref 1, .ref 32, .int x2]) (st' := [.int x2, .ref 44, .int x2, .ref 13]) hX ok_Wall_copyFrom rfl ?_
      refine kx_ialdc hX ok_Wall_copyFrom (w := 12) (nx := 98) rfl b2 (k := x2.toNatClampNeg) rfl ?_
      refine kx_iastc hX ok_Wall_copyFrom (w := 12) (nx := 99) rfl b2 (k := x2.toNatClampNeg) rfl ?_
      refine kx_lt (Q := fun J5 => kW G X m_Wall_copyFrom C J5 cells slots 99 [.ref 1, .ref 32, .int x2] []) (fun J5 eJ5 => ?_)
      refine kx_go 2 (pc' := 55) (lv' := [.ref 1, .ref 32, .int (x2 + (1 : Int32))]) (st' := []) hX ok_Wall_copyFrom rfl ?_
      exact fun h => ih (x2 + (1 : Int32)) J5 r hk h
def M_Wall_copyFrom_2 (C : HC) (I : HI) : Option (HC × HI) := Option.bind (L_Wall_copyFrom_2_2 9 (0 : Int32) C I) fun p1 => lt (xu p1.2 1 1 (p1.2 32 1)) fun J2 => Option.bind (L_Wall_copyFrom_2_55 1000 (0 : Int32) J2) fun p3 => lt (xu p3 1 5 (p3 32 5)) fun J4 => grd (bcp (0 : Int32) (0 : Int32) (50 : Int32) 50 50) (lt (xrow J4 14 (va_cpy (J4 45) (J4 14) (0 : Int32).toNatClampNeg (0 : Int32).toNatClampNeg (50 : Int32).toNatClampNeg)) fun J5 => lt (xu J5 1 7 (J5 32 7)) fun J6 => Option.bind (M_Text_copyFrom_4 J6) fun p7 => Option.bind (M_Text_copyFrom_5 p7) fun p8 => grd (bcp (0 : Int32) (0 : Int32) (20 : Int32) 20 20) (lt (xrow p8 31 (va_cpy (p8 62) (p8 31) (0 : Int32).toNatClampNeg (0 : Int32).toNatClampNeg (20 : Int32).toNatClampNeg)) fun J9 => lt (xu J9 1 11 (J9 32 11)) fun J10 => lt (xu J10 1 12 (J10 32 12)) fun J11 => some (p1.1, J11)))
theorem s_Wall_copyFrom_2 {G : xG} {d : Nat} (hd : 6 ≤ d) (C : HC) (I : HI)   (r : HC × HI) : M_Wall_copyFrom_2 C I = some r → kM G d m_Wall_copyFrom [.ref 1, .ref 32] C I 9 63 none r.1 r.2 := by
  unfold M_Wall_copyFrom_2
  refine kM.of (by decide +kernel) (Nat.le_of_ble_eq_true rfl) (lv := [.ref 1, .ref 32, .null]) rfl (fun X hX hE => ?_)
  refine kx_go 2 (pc' := 2) (lv' := [.ref 1, .ref 32, .int (0 : Int32)]) (st' := []) hX ok_Wall_copyFrom rfl ?_
  refine kx_bind (fun p1 hp1 => ?_)
  refine kx_via (fun hk => s_L_Wall_copyFrom_2_2 (G := G) (X := X) (by omega) hX 9 (0 : Int32) C I p1 0 0 hk ⟨Nat.le_of_ble_eq_true rfl, Nat.le_of_ble_eq_true rfl⟩ hp1) ?_
  refine kx_go 2 (pc' := 47) (lv' := [.ref 1, .ref 32, .null]) (st' := [.ref 32, .ref 1]) hX ok_Wall_copyFrom rfl ?_
  refine kx_geti hX ok_Wall_copyFrom rfl (k := 1) (nx := 50) rfl ?_
  refine kx_puti hX ok_Wall_copyFrom rfl (k := 1) (nx := 53) rfl rfl ?_
  refine kx_lt (Q := fun J2 => kW G X m_Wall_copyFrom p1.1 J2 (0 + 9 * 1) (0 + 9 * 7) 53 [.ref 1, .ref 32, .null] []) (fun J2 eJ2 => ?_)
  refine kx_go 2 (pc' := 55) (lv' := [.ref 1, .ref 32, .int (0 : Int32)]) (st' := []) hX ok_Wall_copyFrom rfl ?_
  refine kx_bind (fun p3 hp3 => ?_)
  refine kx_via (fun hk => s_L_Wall_copyFrom_2_55 (G := G) (X := X) (by omega) hX p1.1 (0 + 9 * 1) (0 + 9 * 7) ⟨Nat.le_of_ble_eq_true rfl, Nat.le_of_ble_eq_true rfl⟩ 1000 (0 : Int32) J2 p3 hk hp3) ?_
  refine kx_go 2 (pc' := 107) (lv' := [.ref 1, .ref 32, .null]) (st' := [.ref 32, .ref 1]) hX ok_Wall_copyFrom rfl ?_
  refine kx_geti hX ok_Wall_copyFrom rfl (k := 5) (nx := 110) rfl ?_
  refine kx_puti hX ok_Wall_copyFrom rfl (k := 5) (nx := 113) rfl rfl ?_
  refine kx_lt (Q := fun J4 => kW G X m_Wall_copyFrom p1.1 J4 (0 + 9 * 1) (0 + 9 * 7) 113 [.ref 1, .ref 32, .null] []) (fun J4 eJ4 => ?_)
  refine kx_go 1 (pc' := 114) (lv' := [.ref 1, .ref 32, .null]) (st' := [.ref 32]) hX ok_Wall_copyFrom rfl ?_
  refine kx_getp hX ok_Wall_copyFrom rfl (q := 45) (nx := 117) rfl ?_
  refine kx_go 2 (pc' := 119) (lv' := [.ref 1, .ref 32, .null]) (st' := [.ref 1, .int (0 : Int32), .ref 45]) hX ok_Wall_copyFrom rfl ?_
  refine kx_getp hX ok_Wall_copyFrom rfl (q := 14) (nx := 122) rfl ?_
  refine kx_go 2 (pc' := 125) (lv' := [.ref 1, .ref 32, .null]) (st' := [.int (50 : Int32), .int (0 : Int32), .ref 14, .int (0 : Int32), .ref 45]) hX ok_Wall_copyFrom rfl ?_
  refine kx_copy (d := d) (kA_lit (r := 45) (w := 50) rfl) (kA_lit (r := 14) (w := 50) rfl) (by omega) hX ok_Wall_copyFrom l_Wall_67 (nx := 128) rfl (Nat.le_of_ble_eq_true rfl) ?_
  refine kx_lt (Q := fun J5 => kW G X m_Wall_copyFrom p1.1 J5 (0 + 9 * 1) (0 + 9 * 7) 128 [.ref 1, .ref 32, .null] []) (fun J5 eJ5 => ?_)
  refine kx_go 2 (pc' := 130) (lv' := [.ref 1, .ref 32, .null]) (st' := [.ref 32, .ref 1]) hX ok_Wall_copyFrom rfl ?_
  refine kx_geti hX ok_Wall_copyFrom rfl (k := 7) (nx := 133) rfl ?_
  refine kx_puti hX ok_Wall_copyFrom rfl (k := 7) (nx := 136) rfl rfl ?_
  refine kx_lt (Q := fun J6 => kW G X m_Wall_copyFrom p1.1 J6 (0 + 9 * 1) (0 + 9 * 7) 136 [.ref 1, .ref 32, .null] []) (fun J6 eJ6 => ?_)
  refine kx_go 1 (pc' := 137) (lv' := [.ref 1, .ref 32, .null]) (st' := [.ref 1]) hX ok_Wall_copyFrom rfl ?_
  refine kx_getp hX ok_Wall_copyFrom rfl (q := 15) (nx := 140) rfl ?_
  refine kx_go 1 (pc' := 141) (lv' := [.ref 1, .ref 32, .null]) (st' := [.int (0 : Int32), .ref 15]) hX ok_Wall_copyFrom rfl ?_
  refine kx_aaXc hX ok_Wall_copyFrom (nx := 142) rfl (by decide) rfl (q := 16) rfl ?_
  refine kx_go 1 (pc' := 143) (lv' := [.ref 1, .ref 32, .null]) (st' := [.ref 32, .ref 16]) hX ok_Wall_copyFrom rfl ?_
  refine kx_getp hX ok_Wall_copyFrom rfl (q := 46) (nx := 146) rfl ?_
  refine kx_go 1 (pc' := 147) (lv' := [.ref 1, .ref 32, .null]) (st' := [.int (0 : Int32), .ref 46, .ref 16]) hX ok_Wall_copyFrom rfl ?_
  refine kx_aaXc hX ok_Wall_copyFrom (nx := 148) rfl (by decide) rfl (q := 47) rfl ?_
  refine kx_bind (fun p7 hp7 => ?_)
  refine kx_V (r := 16) (as := [.ref 47]) (by decide) hX ok_Wall_copyFrom (nx := 151) rfl l_Wall_76 (by decide) rfl (fun _ => s_Text_copyFrom_4 (G := G) (d := 0) (Nat.le_refl _) p1.1 J6  p7 hp7) (by omega) rfl (rest := []) rfl (Nat.le_of_ble_eq_true rfl) ⟨Nat.le_of_ble_eq_true rfl, Nat.le_of_ble_eq_true rfl⟩ ?_
  show _ → kW G X m_Wall_copyFrom p1.1 p7 (0 + 9 * 1) (0 + 9 * 7) 151 [.ref 1, .ref 32, .null] []
  refine kx_go 1 (pc' := 152) (lv' := [.ref 1, .ref 32, .null]) (st' := [.ref 1]) hX ok_Wall_copyFrom rfl ?_
  refine kx_getp hX ok_Wall_copyFrom rfl (q := 15) (nx := 155) rfl ?_
  refine kx_go 1 (pc' := 156) (lv' := [.ref 1, .ref 32, .null]) (st' := [.int (1 : Int32), .ref 15]) hX ok_Wall_copyFrom rfl ?_
  refine kx_aaXc hX ok_Wall_copyFrom (nx := 157) rfl (by decide) rfl (q := 21) rfl ?_
  refine kx_go 1 (pc' := 158) (lv' := [.ref 1, .ref 32, .null]) (st' := [.ref 32, .ref 21]) hX ok_Wall_copyFrom rfl ?_
  refine kx_getp hX ok_Wall_copyFrom rfl (q := 46) (nx := 161) rfl ?_
  refine kx_go 1 (pc' := 162) (lv' := [.ref 1, .ref 32, .null]) (st' := [.int (1 : Int32), .ref 46, .ref 21]) hX ok_Wall_copyFrom rfl ?_
  refine kx_aaXc hX ok_Wall_copyFrom (nx := 163) rfl (by decide) rfl (q := 52) rfl ?_
  refine kx_bind (fun p8 hp8 => ?_)
  refine kx_V (r := 21) (as := [.ref 52]) (by decide) hX ok_Wall_copyFrom (nx := 166) rfl l_Wall_76 (by decide) rfl (fun _ => s_Text_copyFrom_5 (G := G) (d := 0) (Nat.le_refl _) p1.1 p7  p8 hp8) (by omega) rfl (rest := []) rfl (Nat.le_of_ble_eq_true rfl) ⟨Nat.le_of_ble_eq_true rfl, Nat.le_of_ble_eq_true rfl⟩ ?_
  show _ → kW G X m_Wall_copyFrom p1.1 p8 (0 + 9 * 1) (0 + 9 * 7) 166 [.ref 1, .ref 32, .null] []
  refine kx_go 1 (pc' := 167) (lv' := [.ref 1, .ref 32, .null]) (st' := [.ref 32]) hX ok_Wall_copyFrom rfl ?_
  refine kx_getp hX ok_Wall_copyFrom rfl (q := 62) (nx := 170) rfl ?_
  refine kx_go 2 (pc' := 172) (lv' := [.ref 1, .ref 32, .null]) (st' := [.ref 1, .int (0 : Int32), .ref 62]) hX ok_Wall_copyFrom rfl ?_
  refine kx_getp hX ok_Wall_copyFrom rfl (q := 31) (nx := 175) rfl ?_
  refine kx_go 2 (pc' := 178) (lv' := [.ref 1, .ref 32, .null]) (st' := [.int (20 : Int32), .int (0 : Int32), .ref 31, .int (0 : Int32), .ref 62]) hX ok_Wall_copyFrom rfl ?_
  refine kx_copy (d := d) (kA_lit (r := 62) (w := 20) rfl) (kA_lit (r := 31) (w := 20) rfl) (by omega) hX ok_Wall_copyFrom l_Wall_67 (nx := 181) rfl (Nat.le_of_ble_eq_true rfl) ?_
  refine kx_lt (Q := fun J9 => kW G X m_Wall_copyFrom p1.1 J9 (0 + 9 * 1) (0 + 9 * 7) 181 [.ref 1, .ref 32, .null] []) (fun J9 eJ9 => ?_)
  refine kx_go 2 (pc' := 183) (lv' := [.ref 1, .ref 32, .null]) (st' := [.ref 32, .ref 1]) hX ok_Wall_copyFrom rfl ?_
  refine kx_geti hX ok_Wall_copyFrom rfl (k := 11) (nx := 186) rfl ?_
  refine kx_puti hX ok_Wall_copyFrom rfl (k := 11) (nx := 189) rfl rfl ?_
  refine kx_lt (Q := fun J10 => kW G X m_Wall_copyFrom p1.1 J10 (0 + 9 * 1) (0 + 9 * 7) 189 [.ref 1, .ref 32, .null] []) (fun J10 eJ10 => ?_)
  refine kx_go 2 (pc' := 191) (lv' := [.ref 1, .ref 32, .null]) (st' := [.ref 32, .ref 1]) hX ok_Wall_copyFrom rfl ?_
  refine kx_geti hX ok_Wall_copyFrom rfl (k := 12) (nx := 194) rfl ?_
  refine kx_puti hX ok_Wall_copyFrom rfl (k := 12) (nx := 197) rfl rfl ?_
  refine kx_lt (Q := fun J11 => kW G X m_Wall_copyFrom p1.1 J11 (0 + 9 * 1) (0 + 9 * 7) 197 [.ref 1, .ref 32, .null] []) (fun J11 eJ11 => ?_)
  intro h; have h := Option.some.inj h; subst h
  exact kx_vret hX hE ok_Wall_copyFrom (nx := 198) rfl rfl ⟨Nat.le_of_ble_eq_true rfl, Nat.le_of_ble_eq_true rfl⟩
def M_H_restore (C : HC) (I : HI) : Option (Int32 × HC × HI) := if (I 0 9) = (0 : Int32) then (Option.bind (M_H_error I (2 : Int32)) fun p2 => some (p2.1, C, p2.2)) else (Option.bind (M_Wall_copyFrom_2 C I) fun p3 => some ((p3.2 1 1), p3.1, p3.2))
theorem s_H_restore {G : xG} {d : Nat} (hd : 7 ≤ d) (C : HC) (I : HI)   (r : Int32 × HC × HI) : M_H_restore C I = some r → kM G d m_H_restore [.ref 0] C I 9 63 (some (.int r.1)) r.2.1 r.2.2 := by
  unfold M_H_restore
  refine kM.of (by decide +kernel) (Nat.le_of_ble_eq_true rfl) (lv := [.ref 0]) rfl (fun X hX hE => ?_)
  refine kx_go 1 (pc' := 1) (lv' := [.ref 0]) (st' := [.ref 0]) hX ok_H_restore rfl ?_
  refine kx_geti hX ok_H_restore rfl (k := 9) (nx := 4) rfl ?_
  refine kx_go 1 (pc' := if (I 0 9) = (0 : Int32) then 7 else 13) (lv' := [.ref 0]) (st' := []) hX ok_H_restore rfl ?_
  refine kx_ite (fun c1 => ?_) (fun c1 => ?_)
  · refine kx_go 2 (pc' := 9) (lv' := [.ref 0]) (st' := [.int (2 : Int32), .ref 0]) hX ok_H_restore rfl ?_
    refine kx_bind (fun p2 hp2 => ?_)
    refine kx_V (r := 0) (as := [.int (2 : Int32)]) (by decide) hX ok_H_restore (nx := 12) rfl l_H_60 (by decide) rfl (fun _ => s_H_error (G := G) (d := 0) (Nat.le_refl _) C I (2 : Int32) p2 hp2) (by omega) rfl (rest := []) rfl (Nat.le_of_ble_eq_true rfl) ⟨Nat.le_of_ble_eq_true rfl, Nat.le_of_ble_eq_true rfl⟩ ?_
    show _ → kW G X m_H_restore C p2.2 0 0 12 [.ref 0] [.int p2.1]
    intro h; have h := Option.some.inj h; subst h
    exact kx_iret hX hE ok_H_restore (nx := 13) rfl rfl ⟨Nat.le_of_ble_eq_true rfl, Nat.le_of_ble_eq_true rfl⟩
  · refine kx_go 1 (pc' := 14) (lv' := [.ref 0]) (st' := [.ref 0]) hX ok_H_restore rfl ?_
    refine kx_getp hX ok_H_restore rfl (q := 1) (nx := 17) rfl ?_
    refine kx_go 1 (pc' := 18) (lv' := [.ref 0]) (st' := [.ref 0, .ref 1]) hX ok_H_restore rfl ?_
    refine kx_getp hX ok_H_restore rfl (q := 32) (nx := 21) rfl ?_
    refine kx_bind (fun p3 hp3 => ?_)
    refine kx_V (r := 1) (as := [.ref 32]) (by decide) hX ok_H_restore (nx := 24) rfl l_H_279 (by decide) rfl (fun _ => s_Wall_copyFrom_2 (G := G) (d := 6) (Nat.le_refl _) C I  p3 hp3) (by omega) rfl (rest := []) rfl (Nat.le_of_ble_eq_true rfl) ⟨Nat.le_of_ble_eq_true rfl, Nat.le_of_ble_eq_true rfl⟩ ?_
    show _ → kW G X m_H_restore p3.1 p3.2 (0 + 9) (0 + 63) 24 [.ref 0] []
    refine kx_go 1 (pc' := 25) (lv' := [.ref 0]) (st' := [.ref 0]) hX ok_H_restore rfl ?_
    refine kx_getp hX ok_H_restore rfl (q := 1) (nx := 28) rfl ?_
    refine kx_geti hX ok_H_restore rfl (k := 1) (nx := 31) rfl ?_
    intro h; have h := Option.some.inj h; subst h
    exact kx_iret hX hE ok_H_restore (nx := 32) rfl rfl ⟨Nat.le_of_ble_eq_true rfl, Nat.le_of_ble_eq_true rfl⟩
def M_H_tell (I : HI) (x1 : Int32) : Option (Int32 × HI) := if (I 1 11) < (20 : Int32) then (grd (bnd (I 1 11) 20) (lt (xu I 31 (I 1 11).toNatClampNeg x1) fun J3 => lt (xu J3 1 11 ((J3 1 11) + (1 : Int32))) fun J4 => some ((J4 1 11), J4))) else (Option.bind (M_H_error I (4 : Int32)) fun p5 => some (p5.1, p5.2))
theorem s_H_tell {G : xG} {d : Nat} (hd : 1 ≤ d) (C : HC) (I : HI) (x1 : Int32)  (r : Int32 × HI) : M_H_tell I x1 = some r → kM G d m_H_tell [.ref 0, .int x1] C I 0 0 (some (.int r.1)) C r.2 := by
  unfold M_H_tell
  refine kM.of (by decide +kernel) (Nat.le_of_ble_eq_true rfl) (lv := [.ref 0, .int x1]) rfl (fun X hX hE => ?_)
  refine kx_go 1 (pc' := 1) (lv' := [.ref 0, .int x1]) (st' := [.ref 0]) hX ok_H_tell rfl ?_
  refine kx_getp hX ok_H_tell rfl (q := 1) (nx := 4) rfl ?_
  refine kx_geti hX ok_H_tell rfl (k := 11) (nx := 7) rfl ?_
  refine kx_go 2 (pc' := if (I 1 11) < (20 : Int32) then 18 else 12) (lv' := [.ref 0, .int x1]) (st' := []) hX ok_H_tell rfl ?_
  refine kx_ite (fun c1 => ?_) (fun c1 => ?_)
  · refine kx_go 1 (pc' := 19) (lv' := [.ref 0, .int x1]) (st' := [.ref 0]) hX ok_H_tell rfl ?_
    refine kx_getp hX ok_H_tell rfl (q := 1) (nx := 22) rfl ?_
    refine kx_getp hX ok_H_tell rfl (q := 31) (nx := 25) rfl ?_
    refine kx_go 1 (pc' := 26) (lv' := [.ref 0, .int x1]) (st' := [.ref 0, .ref 31]) hX ok_H_tell rfl ?_
    refine kx_getp hX ok_H_tell rfl (q := 1) (nx := 29) rfl ?_
    refine kx_geti hX ok_H_tell rfl (k := 11) (nx := 32) rfl ?_
    refine kx_go 1 (pc' := 33) (lv' := [.ref 0, .int x1]) (st' := [.int x1, .int (I 1 11), .ref 31]) hX ok_H_tell rfl ?_
    refine kx_iast hX ok_H_tell (w := 20) (nx := 34) rfl (fun b2 => ?_)
    refine kx_lt (Q := fun J3 => kW G X m_H_tell C J3 0 0 34 [.ref 0, .int x1] []) (fun J3 eJ3 => ?_)
    refine kx_go 1 (pc' := 35) (lv' := [.ref 0, .int x1]) (st' := [.ref 0]) hX ok_H_tell rfl ?_
    refine kx_getp hX ok_H_tell rfl (q := 1) (nx := 38) rfl ?_
    refine kx_go 1 (pc' := 39) (lv' := [.ref 0, .int x1]) (st' := [.ref 1, .ref 1]) hX ok_H_tell rfl ?_
    refine kx_geti hX ok_H_tell rfl (k := 11) (nx := 42) rfl ?_
    refine kx_go 2 (pc' := 44) (lv' := [.ref 0, .int x1]) (st' := [.int ((J3 1 11) + (1 : Int32)), .ref 1]) hX ok_H_tell rfl ?_
    refine kx_puti hX ok_H_tell rfl (k := 11) (nx := 47) rfl rfl ?_
    refine kx_lt (Q := fun J4 => kW G X m_H_tell C J4 0 0 47 [.ref 0, .int x1] []) (fun J4 eJ4 => ?_)
    refine kx_go 1 (pc' := 48) (lv' := [.ref 0, .int x1]) (st' := [.ref 0]) hX ok_H_tell rfl ?_
    refine kx_getp hX ok_H_tell rfl (q := 1) (nx := 51) rfl ?_
    refine kx_geti hX ok_H_tell rfl (k := 11) (nx := 54) rfl ?_
    intro h; have h := Option.some.inj h; subst h
    exact kx_iret hX hE ok_H_tell (nx := 55) rfl rfl ⟨Nat.le_of_ble_eq_true rfl, Nat.le_of_ble_eq_true rfl⟩
  · refine kx_go 2 (pc' := 14) (lv' := [.ref 0, .int x1]) (st' := [.int (4 : Int32), .ref 0]) hX ok_H_tell rfl ?_
    refine kx_bind (fun p5 hp5 => ?_)
    refine kx_V (r := 0) (as := [.int (4 : Int32)]) (by decide) hX ok_H_tell (nx := 17) rfl l_H_60 (by decide) rfl (fun _ => s_H_error (G := G) (d := 0) (Nat.le_refl _) C I (4 : Int32) p5 hp5) (by omega) rfl (rest := []) rfl (Nat.le_of_ble_eq_true rfl) ⟨Nat.le_of_ble_eq_true rfl, Nat.le_of_ble_eq_true rfl⟩ ?_
    show _ → kW G X m_H_tell C p5.2 0 0 17 [.ref 0, .int x1] [.int p5.1]
    intro h; have h := Option.some.inj h; subst h
    exact kx_iret hX hE ok_H_tell (nx := 18) rfl rfl ⟨Nat.le_of_ble_eq_true rfl, Nat.le_of_ble_eq_true rfl⟩
def L_Wall_allBelowAre_2 (x1 : Int32) (x2 : Int32) (I : HI) : Nat → Int32 → Option (Nat)
  | 0, _ => none
  | f + 1, x3 => if (I 1 5) ≤ x3 then (some 1) else (grd (bnd x3 12) (if (I 11 x3.toNatClampNeg) = x2 then (if ((x1 >>> ((I 12 x3.toNatClampNeg) &&& (31 : Int32))) &&& (1 : Int32)) = (0 : Int32) then (some 0) else (L_Wall_allBelowAre_2 x1 x2 I f (x3 + (1 : Int32)))) else (L_Wall_allBelowAre_2 x1 x2 I f (x3 + (1 : Int32)))))
theorem s_L_Wall_allBelowAre_2 {G : xG} {X : xC} {d : Nat} (hd : 0 ≤ d) (hX : xAmb G X m_Wall_allBelowAre d 0 0)  (C : HC) (x1 : Int32) (x2 : Int32) (I : HI) : ∀ (f : Nat) (x3 : Int32) (r : Nat), (r = 0 → kW G X m_Wall_allBelowAre C I 0 0 33 [.null, .null, .null, .null] []) → (¬ r = 0 → kW G X m_Wall_allBelowAre C I 0 0 41 [.null, .null, .null, .null] []) → L_Wall_allBelowAre_2 x1 x2 I f x3 = some r → kW G X m_Wall_allBelowAre C I 0 0 2 [.ref 1, .int x1, .int x2, .int x3] [] := by
  intro f
  induction f with
  | zero => intro x3 r hk0 hk1 h; rw [L_Wall_allBelowAre_2] at h; cases h
  | succ f ih =>
    intro x3 r hk0 hk1
    rw [L_Wall_allBelowAre_2]
    refine kx_go 2 (pc' := 4) (lv' := [.ref 1, .int x1, .int x2, .int x3]) (st' := [.ref 1, .int x3]) hX ok_Wall_allBelowAre rfl ?_
    refine kx_geti hX ok_Wall_allBelowAre rfl (k := 5) (nx := 7) rfl ?_
    refine kx_go 1 (pc' := if (I 1 5) ≤ x3 then 41 else 10) (lv' := [.ref 1, .int x1, .int x2, .int x3]) (st' := []) hX ok_Wall_allBelowAre rfl ?_
    refine kx_ite (fun c1 => ?_) (fun c1 => ?_)
    · refine kx_weak (lv' := [.null, .null, .null, .null]) (by simp [xsub]) ?_
      intro h; have h := Option.some.inj h; subst h
      exact hk1 (show ¬ (1 : Nat) = 0 by decide)
    · refine kx_go 1 (pc' := 11) (lv' := [.ref 1, .int x1, .int x2, .int x3]) (st' := [.ref 1]) hX ok_Wall_allBelowAre rfl ?_
      refine kx_getp hX ok_Wall_allBelowAre rfl (q := 11) (nx := 14) rfl ?_
      refine kx_go 1 (pc' := 15) (lv' := [.ref 1, .int x1, .int x2, .int x3]) (st' := [.int x3, .ref 11]) hX ok_Wall_allBelowAre rfl ?_
      refine kx_iald hX ok_Wall_allBelowAre (w := 12) (nx := 16) rfl (fun b2 => ?_)
      refine kx_go 2 (pc' := if (I 11 x3.toNatClampNeg) = x2 then 20 else 35) (lv' := [.ref 1, .int x1, .int x2, .int x3]) (st' := []) hX ok_Wall_allBelowAre rfl ?_
      refine kx_ite (fun c3 => ?_) (fun c3 => ?_)
      · refine kx_go 2 (pc' := 22) (lv' := [.ref 1, .int x1, .int x2, .int x3]) (st' := [.ref 1, .int x1]) hX ok_Wall_allBelowAre rfl ?_
        refine kx_getp hX ok_Wall_allBelowAre rfl (q := 12) (nx := 25) rfl ?_
        refine kx_go 1 (pc' := 26) (lv' := [.ref 1, .int x1, .int x2, .int x3]) (st' := [.int x3, .ref 12, .int x1]) hX ok_Wall_allBelowAre rfl ?_
        refine kx_ialdc hX ok_Wall_allBelowAre (w := 12) (nx := 27) rfl b2 (k := x3.toNatClampNeg) rfl ?_
        refine kx_go 4 (pc' := if ((x1 >>> ((I 12 x3.toNatClampNeg) &&& (31 : Int32))) &&& (1 : Int32)) = (0 : Int32) then 33 else 35) (lv' := [.ref 1, .int x1, .int x2, .int x3]) (st' := []) hX ok_Wall_allBelowAre rfl ?_
        refine kx_ite (fun c4 => ?_) (fun c4 => ?_)
        · refine kx_weak (lv' := [.null, .null, .null, .null]) (by simp [xsub]) ?_
          intro h; have h := Option.some.inj h; subst h
          exact hk0 rfl
        · refine kx_go 2 (pc' := 2) (lv' := [.ref 1, .int x1, .int x2, .int (x3 + (1 : Int32))]) (st' := []) hX ok_Wall_allBelowAre rfl ?_
          exact fun h => ih (x3 + (1 : Int32)) r hk0 hk1 h
      · refine kx_go 2 (pc' := 2) (lv' := [.ref 1, .int x1, .int x2, .int (x3 + (1 : Int32))]) (st' := []) hX ok_Wall_allBelowAre rfl ?_
        exact fun h => ih (x3 + (1 : Int32)) r hk0 hk1 h
def M_Wall_allBelowAre (I : HI) (x1 : Int32) (x2 : Int32) : Option (Int32) := Option.bind (L_Wall_allBelowAre_2 x1 x2 I 1000 (0 : Int32)) fun p1 => if p1 = 0 then (some (0 : Int32)) else (some (1 : Int32))
theorem s_Wall_allBelowAre {G : xG} {d : Nat} (hd : 0 ≤ d) (C : HC) (I : HI) (x1 : Int32) (x2 : Int32)  (r : Int32) : M_Wall_allBelowAre I x1 x2 = some r → kM G d m_Wall_allBelowAre [.ref 1, .int x1, .int x2] C I 0 0 (some (.int r)) C I := by
  unfold M_Wall_allBelowAre
  refine kM.of (by decide +kernel) (Nat.le_of_ble_eq_true rfl) (lv := [.ref 1, .int x1, .int x2, .null]) rfl (fun X hX hE => ?_)
  refine kx_go 2 (pc' := 2) (lv' := [.ref 1, .int x1, .int x2, .int (0 : Int32)]) (st' := []) hX ok_Wall_allBelowAre rfl ?_
  refine kx_bind (fun p1 hp1 => ?_)
  refine kx_via2 (fun hk0 hk1 => s_L_Wall_allBelowAre_2 (G := G) (X := X) (by omega) hX C x1 x2 I 1000 (0 : Int32) p1 hk0 hk1 hp1) (fun _ => ?_) (fun _ => ?_)
  · refine kx_go 1 (pc' := 34) (lv' := [.null, .null, .null, .null]) (st' := [.int (0 : Int32)]) hX ok_Wall_allBelowAre rfl ?_
    intro h; have h := Option.some.inj h; subst h
    exact kx_zret hX hE ok_Wall_allBelowAre (nx := 35) rfl rfl (Or.inl rfl) ⟨Nat.le_of_ble_eq_true rfl, Nat.le_of_ble_eq_true rfl⟩
  · refine kx_go 1 (pc' := 42) (lv' := [.null, .null, .null, .null]) (st' := [.int (1 : Int32)]) hX ok_Wall_allBelowAre rfl ?_
    intro h; have h := Option.some.inj h; subst h
    exact kx_zret hX hE ok_Wall_allBelowAre (nx := 43) rfl rfl (Or.inr rfl) ⟨Nat.le_of_ble_eq_true rfl, Nat.le_of_ble_eq_true rfl⟩
def L_Wall_faultOfWaiting_4 (I : HI) : Nat → Int32 → Int32 → Option (Nat × Int32)
  | 0, _, _ => none
  | f + 1, x1, x2 => if (I 1 11) ≤ x2 then (some (1, x2)) else (grd (bnd x2 20) (if (M_Wall_hasStroke I (I 31 x2.toNatClampNeg)) = (0 : Int32) then (some (0, x2)) else (if ((x1 >>> ((I 31 x2.toNatClampNeg) &&& (31 : Int32))) &&& (1 : Int32)) = (0 : Int32) then (Option.bind (M_Wall_allBelowAre I x1 (I 31 x2.toNatClampNeg)) fun p5 => if p5 = (0 : Int32) then (some (0, x2)) else (lt (x1 ||| ((1 : Int32) <<< ((I 31 x2.toNatClampNeg) &&& (31 : Int32)))) fun y7 => L_Wall_faultOfWaiting_4 I f y7 (x2 + (1 : Int32)))) else (some (0, x2)))))
theorem s_L_Wall_faultOfWaiting_4 {G : xG} {X : xC} {d : Nat} (hd : 1 ≤ d) (hX : xAmb G X m_Wall_faultOfWaiting d 0 0)  (C : HC) (I : HI) : ∀ (f : Nat) (x1 : Int32) (x2 : Int32) (r : Nat × Int32), (r.1 = 0 → kW G X m_Wall_faultOfWaiting C I 0 0 44 [.null, .null, .int r.2, .null] []) → (¬ r.1 = 0 → kW G X m_Wall_faultOfWaiting C I 0 0 58 [.ref 1, .null, .null, .null] []) → L_Wall_faultOfWaiting_4 I f x1 x2 = some r → kW G X m_Wall_faultOfWaiting C I 0 0 4 [.ref 1, .int x1, .int x2, .null] [] := by
  intro f
  induction f with
  | zero => intro x1 x2 r hk0 hk1 h; rw [L_Wall_faultOfWaiting_4] at h; cases h
  | succ f ih =>
    intro x1 x2 r hk0 hk1
    rw [L_Wall_faultOfWaiting_4]
    refine kx_go 2 (pc' := 6) (lv' := [.ref 1, .int x1, .int x2, .null]) (st' := [.ref 1, .int x2]) hX ok_Wall_faultOfWaiting rfl ?_
    refine kx_geti hX ok_Wall_faultOfWaiting rfl (k := 11) (nx := 9) rfl ?_
    refine kx_go 1 (pc' := if (I 1 11) ≤ x2 then 58 else 12) (lv' := [.ref 1, .int x1, .int x2, .null]) (st' := []) hX ok_Wall_faultOfWaiting rfl ?_
    refine kx_ite (fun c1 => ?_) (fun c1 => ?_)
    · refine kx_weak (lv' := [.ref 1, .null, .null, .null]) (by simp [xsub]) ?_
      intro h; have h := Option.some.inj h; subst h
      exact hk1 (show ¬ (1 : Nat) = 0 by decide)
    · refine kx_go 1 (pc' := 13) (lv' := [.ref 1, .int x1, .int x2, .null]) (st' := [.ref 1]) hX ok_Wall_faultOfWaiting rfl ?_
      refine kx_getp hX ok_Wall_faultOfWaiting rfl (q := 31) (nx := 16) rfl ?_
      refine kx_go 1 (pc' := 17) (lv' := [.ref 1, .int x1, .int x2, .null]) (st' := [.int x2, .ref 31]) hX ok_Wall_faultOfWaiting rfl ?_
      refine kx_iald hX ok_Wall_faultOfWaiting (w := 20) (nx := 18) rfl (fun b2 => ?_)
      refine kx_go 3 (pc' := 21) (lv' := [.ref 1, .int x1, .int x2, .int (I 31 x2.toNatClampNeg)]) (st' := [.int (I 31 x2.toNatClampNeg), .ref 1]) hX ok_Wall_faultOfWaiting rfl ?_
      refine kx_V (r := 1) (as := [.int (I 31 x2.toNatClampNeg)]) (by decide) hX ok_Wall_faultOfWaiting (nx := 24) rfl l_Wall_95 (by decide) rfl (fun _ => s_Wall_hasStroke (G := G) (d := 0) (Nat.le_refl _) C I (I 31 x2.toNatClampNeg) _ rfl) (by omega) rfl (rest := []) rfl (Nat.le_of_ble_eq_true rfl) ⟨Nat.le_of_ble_eq_true rfl, Nat.le_of_ble_eq_true rfl⟩ ?_
      show _ → kW G X m_Wall_faultOfWaiting C I 0 0 24 [.ref 1, .int x1, .int x2, .int (I 31 x2.toNatClampNeg)] [.int (M_Wall_hasStroke I (I 31 x2.toNatClampNeg))]
      refine kx_go 1 (pc' := if (M_Wall_hasStroke I (I 31 x2.toNatClampNeg)) = (0 : Int32) then 44 else 27) (lv' := [.ref 1, .int x1, .int x2, .int (I 31 x2.toNatClampNeg)]) (st' := []) hX ok_Wall_faultOfWaiting rfl ?_
      refine kx_ite (fun c3 => ?_) (fun c3 => ?_)
      · refine kx_weak (lv' := [.null, .null, .int x2, .null]) (by simp [xsub]) ?_
        intro h; have h := Option.some.inj h; subst h
        exact hk0 rfl
      · refine kx_go 6 (pc' := if ((x1 >>> ((I 31 x2.toNatClampNeg) &&& (31 : Int32))) &&& (1 : Int32)) = (0 : Int32) then 35 else 44) (lv' := [.ref 1, .int x1, .int x2, .int (I 31 x2.toNatClampNeg)]) (st' := []) hX ok_Wall_faultOfWaiting rfl ?_
        refine kx_ite (fun c4 => ?_) (fun c4 => ?_)
        · refine kx_go 3 (pc' := 38) (lv' := [.ref 1, .int x1, .int x2, .int (I 31 x2.toNatClampNeg)]) (st' := [.int (I 31 x2.toNatClampNeg), .int x1, .ref 1]) hX ok_Wall_faultOfWaiting rfl ?_
          refine kx_bind (fun p5 hp5 => ?_)
          refine kx_V (r := 1) (as := [.int x1, .int (I 31 x2.toNatClampNeg)]) (by decide) hX ok_Wall_faultOfWaiting (nx := 41) rfl l_Wall_185 (by decide) rfl (fun _ => s_Wall_allBelowAre (G := G) (d := 0) (Nat.le_refl _) C I x1 (I 31 x2.toNatClampNeg) p5 hp5) (by omega) rfl (rest := []) rfl (Nat.le_of_ble_eq_true rfl) ⟨Nat.le_of_ble_eq_true rfl, Nat.le_of_ble_eq_true rfl⟩ ?_
          show _ → kW G X m_Wall_faultOfWaiting C I 0 0 41 [.ref 1, .int x1, .int x2, .int (I 31 x2.toNatClampNeg)] [.int p5]
          refine kx_go 1 (pc' := if p5 = (0 : Int32) then 44 else 46) (lv' := [.ref 1, .int x1, .int x2, .int (I 31 x2.toNatClampNeg)]) (st' := []) hX ok_Wall_faultOfWaiting rfl ?_
          refine kx_ite (fun c6 => ?_) (fun c6 => ?_)
          · refine kx_weak (lv' := [.null, .null, .int x2, .null]) (by simp [xsub]) ?_
            intro h; have h := Option.some.inj h; subst h
            exact hk0 rfl
          · refine kx_go 6 (pc' := 52) (lv' := [.ref 1, .int (x1 ||| ((1 : Int32) <<< ((I 31 x2.toNatClampNeg) &&& (31 : Int32)))), .int x2, .int (I 31 x2.toNatClampNeg)]) (st' := []) hX ok_Wall_faultOfWaiting rfl ?_
            refine kx_lt (Q := fun y7 => kW G X m_Wall_faultOfWaiting C I 0 0 52 [.ref 1, .int y7, .int x2, .int (I 31 x2.toNatClampNeg)] []) (fun y7 ey7 => ?_)
            refine kx_go 2 (pc' := 4) (lv' := [.ref 1, .int y7, .int (x2 + (1 : Int32)), .int (I 31 x2.toNatClampNeg)]) (st' := []) hX ok_Wall_faultOfWaiting rfl ?_
            refine kx_weak (lv' := [.ref 1, .int y7, .int (x2 + (1 : Int32)), .null]) (by simp [xsub]) ?_
            exact fun h => ih y7 (x2 + (1 : Int32)) r hk0 hk1 h
        · refine kx_weak (lv' := [.null, .null, .int x2, .null]) (by simp [xsub]) ?_
          intro h; have h := Option.some.inj h; subst h
          exact hk0 rfl
def M_Wall_faultOfWaiting (I : HI) : Option (Int32) := Option.bind (L_Wall_faultOfWaiting_4 I 1000 (0 : Int32) (0 : Int32)) fun p1 => if p1.1 = 0 then (some p1.2) else (if (I 1 1) ≤ (I 1 11) then (some (-1 : Int32)) else (some (I 1 11)))
theorem s_Wall_faultOfWaiting {G : xG} {d : Nat} (hd : 1 ≤ d) (C : HC) (I : HI)   (r : Int32) : M_Wall_faultOfWaiting I = some r → kM G d m_Wall_faultOfWaiting [.ref 1] C I 0 0 (some (.int r)) C I := by
  unfold M_Wall_faultOfWaiting
  refine kM.of (by decide +kernel) (Nat.le_of_ble_eq_true rfl) (lv := [.ref 1, .null, .null, .null]) rfl (fun X hX hE => ?_)
  refine kx_go 4 (pc' := 4) (lv' := [.ref 1, .int (0 : Int32), .int (0 : Int32), .null]) (st' := []) hX ok_Wall_faultOfWaiting rfl ?_
  refine kx_bind (fun p1 hp1 => ?_)
  refine kx_via2 (fun hk0 hk1 => s_L_Wall_faultOfWaiting_4 (G := G) (X := X) (by omega) hX C I 1000 (0 : Int32) (0 : Int32) p1 hk0 hk1 hp1) (fun _ => ?_) (fun _ => ?_)
  · refine kx_go 1 (pc' := 45) (lv' := [.null, .null, .int p1.2, .null]) (st' := [.int p1.2]) hX ok_Wall_faultOfWaiting rfl ?_
    intro h; have h := Option.some.inj h; subst h
    exact kx_iret hX hE ok_Wall_faultOfWaiting (nx := 46) rfl rfl ⟨Nat.le_of_ble_eq_true rfl, Nat.le_of_ble_eq_true rfl⟩
  · refine kx_go 1 (pc' := 59) (lv' := [.ref 1, .null, .null, .null]) (st' := [.ref 1]) hX ok_Wall_faultOfWaiting rfl ?_
    refine kx_geti hX ok_Wall_faultOfWaiting rfl (k := 11) (nx := 62) rfl ?_
    refine kx_go 1 (pc' := 63) (lv' := [.ref 1, .null, .null, .null]) (st' := [.ref 1, .int (I 1 11)]) hX ok_Wall_faultOfWaiting rfl ?_
    refine kx_geti hX ok_Wall_faultOfWaiting rfl (k := 1) (nx := 66) rfl ?_
    refine kx_go 1 (pc' := if (I 1 1) ≤ (I 1 11) then 76 else 69) (lv' := [.ref 1, .null, .null, .null]) (st' := []) hX ok_Wall_faultOfWaiting rfl ?_
    refine kx_ite (fun c2 => ?_) (fun c2 => ?_)
    · refine kx_go 1 (pc' := 77) (lv' := [.ref 1, .null, .null, .null]) (st' := [.int (-1 : Int32)]) hX ok_Wall_faultOfWaiting rfl ?_
      intro h; have h := Option.some.inj h; subst h
      exact kx_iret hX hE ok_Wall_faultOfWaiting (nx := 78) rfl rfl ⟨Nat.le_of_ble_eq_true rfl, Nat.le_of_ble_eq_true rfl⟩
    · refine kx_go 1 (pc' := 70) (lv' := [.ref 1, .null, .null, .null]) (st' := [.ref 1]) hX ok_Wall_faultOfWaiting rfl ?_
      refine kx_geti hX ok_Wall_faultOfWaiting rfl (k := 11) (nx := 73) rfl ?_
      refine kx_go 1 (pc' := 77) (lv' := [.ref 1, .null, .null, .null]) (st' := [.int (I 1 11)]) hX ok_Wall_faultOfWaiting rfl ?_
      intro h; have h := Option.some.inj h; subst h
      exact kx_iret hX hE ok_Wall_faultOfWaiting (nx := 78) rfl rfl ⟨Nat.le_of_ble_eq_true rfl, Nat.le_of_ble_eq_true rfl⟩
def M_H_check (I : HI) : Option (Int32 × HI) := Option.bind (M_Wall_faultOfWaiting I) fun p1 => lt (xu I 1 11 (0 : Int32)) fun J2 => some ((p1 + (1 : Int32)), J2)
theorem s_H_check {G : xG} {d : Nat} (hd : 2 ≤ d) (C : HC) (I : HI)   (r : Int32 × HI) : M_H_check I = some r → kM G d m_H_check [.ref 0] C I 0 0 (some (.int r.1)) C r.2 := by
  unfold M_H_check
  refine kM.of (by decide +kernel) (Nat.le_of_ble_eq_true rfl) (lv := [.ref 0, .null]) rfl (fun X hX hE => ?_)
  refine kx_go 1 (pc' := 1) (lv' := [.ref 0, .null]) (st' := [.ref 0]) hX ok_H_check rfl ?_
  refine kx_getp hX ok_H_check rfl (q := 1) (nx := 4) rfl ?_
  refine kx_bind (fun p1 hp1 => ?_)
  refine kx_V (r := 1) (as := []) (by decide) hX ok_H_check (nx := 7) rfl l_H_288 (by decide) rfl (fun _ => s_Wall_faultOfWaiting (G := G) (d := 1) (Nat.le_refl _) C I  p1 hp1) (by omega) rfl (rest := []) rfl (Nat.le_of_ble_eq_true rfl) ⟨Nat.le_of_ble_eq_true rfl, Nat.le_of_ble_eq_true rfl⟩ ?_
  show _ → kW G X m_H_check C I 0 0 7 [.ref 0, .null] [.int p1]
  refine kx_go 2 (pc' := 9) (lv' := [.ref 0, .int p1]) (st' := [.ref 0]) hX ok_H_check rfl ?_
  refine kx_getp hX ok_H_check rfl (q := 1) (nx := 12) rfl ?_
  refine kx_go 1 (pc' := 13) (lv' := [.ref 0, .int p1]) (st' := [.int (0 : Int32), .ref 1]) hX ok_H_check rfl ?_
  refine kx_puti hX ok_H_check rfl (k := 11) (nx := 16) rfl rfl ?_
  refine kx_lt (Q := fun J2 => kW G X m_H_check C J2 0 0 16 [.ref 0, .int p1] []) (fun J2 eJ2 => ?_)
  refine kx_go 3 (pc' := 19) (lv' := [.ref 0, .int p1]) (st' := [.int (p1 + (1 : Int32))]) hX ok_H_check rfl ?_
  intro h; have h := Option.some.inj h; subst h
  exact kx_iret hX hE ok_H_check (nx := 20) rfl rfl ⟨Nat.le_of_ble_eq_true rfl, Nat.le_of_ble_eq_true rfl⟩
def M_H_count (I : HI) (x1 : Int32) : Option (Int32 × HI) := if x1 = (0 : Int32) then (some ((I 1 1), I)) else (if x1 = (1 : Int32) then (some ((I 1 5), I)) else (if x1 = (2 : Int32) then (some ((I 1 7), I)) else (if x1 = (3 : Int32) then (some ((I 1 11), I)) else (if x1 = (4 : Int32) then (some ((I 86 0), I)) else (if x1 = (5 : Int32) then (some ((I 1 12), I)) else (Option.bind (M_H_error I (1 : Int32)) fun p7 => some (p7.1, p7.2)))))))
theorem s_H_count {G : xG} {d : Nat} (hd : 1 ≤ d) (C : HC) (I : HI) (x1 : Int32)  (r : Int32 × HI) : M_H_count I x1 = some r → kM G d m_H_count [.ref 0, .int x1] C I 0 0 (some (.int r.1)) C r.2 := by
  unfold M_H_count
  refine kM.of (by decide +kernel) (Nat.le_of_ble_eq_true rfl) (lv := [.ref 0, .int x1]) rfl (fun X hX hE => ?_)
  refine kx_go 2 (pc' := xtsw x1 [((0 : Int32), 40), ((1 : Int32), 48), ((2 : Int32), 56), ((3 : Int32), 64), ((4 : Int32), 72), ((5 : Int32), 79)] 87) (lv' := [.ref 0, .int x1]) (st' := []) hX ok_H_count rfl ?_
  refine kx_sw (fun c1 => ?_) (fun c1 => ?_)
  · refine kx_go 1 (pc' := 41) (lv' := [.ref 0, .int x1]) (st' := [.ref 0]) hX ok_H_count rfl ?_
    refine kx_getp hX ok_H_count rfl (q := 1) (nx := 44) rfl ?_
    refine kx_geti hX ok_H_count rfl (k := 1) (nx := 47) rfl ?_
    intro h; have h := Option.some.inj h; subst h
    exact kx_iret hX hE ok_H_count (nx := 48) rfl rfl ⟨Nat.le_of_ble_eq_true rfl, Nat.le_of_ble_eq_true rfl⟩
  · refine kx_sw (fun c2 => ?_) (fun c2 => ?_)
    · refine kx_go 1 (pc' := 49) (lv' := [.ref 0, .int x1]) (st' := [.ref 0]) hX ok_H_count rfl ?_
      refine kx_getp hX ok_H_count rfl (q := 1) (nx := 52) rfl ?_
      refine kx_geti hX ok_H_count rfl (k := 5) (nx := 55) rfl ?_
      intro h; have h := Option.some.inj h; subst h
      exact kx_iret hX hE ok_H_count (nx := 56) rfl rfl ⟨Nat.le_of_ble_eq_true rfl, Nat.le_of_ble_eq_true rfl⟩
    · refine kx_sw (fun c3 => ?_) (fun c3 => ?_)
      · refine kx_go 1 (pc' := 57) (lv' := [.ref 0, .int x1]) (st' := [.ref 0]) hX ok_H_count rfl ?_
        refine kx_getp hX ok_H_count rfl (q := 1) (nx := 60) rfl ?_
        refine kx_geti hX ok_H_count rfl (k := 7) (nx := 63) rfl ?_
        intro h; have h := Option.some.inj h; subst h
        exact kx_iret hX hE ok_H_count (nx := 64) rfl rfl ⟨Nat.le_of_ble_eq_true rfl, Nat.le_of_ble_eq_true rfl⟩
      · refine kx_sw (fun c4 => ?_) (fun c4 => ?_)
        · refine kx_go 1 (pc' := 65) (lv' := [.ref 0, .int x1]) (st' := [.ref 0]) hX ok_H_count rfl ?_
          refine kx_getp hX ok_H_count rfl (q := 1) (nx := 68) rfl ?_
          refine kx_geti hX ok_H_count rfl (k := 11) (nx := 71) rfl ?_
          intro h; have h := Option.some.inj h; subst h
          exact kx_iret hX hE ok_H_count (nx := 72) rfl rfl ⟨Nat.le_of_ble_eq_true rfl, Nat.le_of_ble_eq_true rfl⟩
        · refine kx_sw (fun c5 => ?_) (fun c5 => ?_)
          · refine kx_go 1 (pc' := 73) (lv' := [.ref 0, .int x1]) (st' := [.ref 0]) hX ok_H_count rfl ?_
            refine kx_getp hX ok_H_count rfl (q := 86) (nx := 76) rfl ?_
            refine kx_go 1 (pc' := 77) (lv' := [.ref 0, .int x1]) (st' := [.int (0 : Int32), .ref 86]) hX ok_H_count rfl ?_
            refine kx_ialdc hX ok_H_count (w := 41) (nx := 78) rfl rfl (k := 0) rfl ?_
            intro h; have h := Option.some.inj h; subst h
            exact kx_iret hX hE ok_H_count (nx := 79) rfl rfl ⟨Nat.le_of_ble_eq_true rfl, Nat.le_of_ble_eq_true rfl⟩
          · refine kx_sw (fun c6 => ?_) (fun c6 => ?_)
            · refine kx_go 1 (pc' := 80) (lv' := [.ref 0, .int x1]) (st' := [.ref 0]) hX ok_H_count rfl ?_
              refine kx_getp hX ok_H_count rfl (q := 1) (nx := 83) rfl ?_
              refine kx_geti hX ok_H_count rfl (k := 12) (nx := 86) rfl ?_
              intro h; have h := Option.some.inj h; subst h
              exact kx_iret hX hE ok_H_count (nx := 87) rfl rfl ⟨Nat.le_of_ble_eq_true rfl, Nat.le_of_ble_eq_true rfl⟩
            · refine kx_sw0 ?_
              refine kx_go 2 (pc' := 89) (lv' := [.ref 0, .int x1]) (st' := [.int (1 : Int32), .ref 0]) hX ok_H_count rfl ?_
              refine kx_bind (fun p7 hp7 => ?_)
              refine kx_V (r := 0) (as := [.int (1 : Int32)]) (by decide) hX ok_H_count (nx := 92) rfl l_H_60 (by decide) rfl (fun _ => s_H_error (G := G) (d := 0) (Nat.le_refl _) C I (1 : Int32) p7 hp7) (by omega) rfl (rest := []) rfl (Nat.le_of_ble_eq_true rfl) ⟨Nat.le_of_ble_eq_true rfl, Nat.le_of_ble_eq_true rfl⟩ ?_
              show _ → kW G X m_H_count C p7.2 0 0 92 [.ref 0, .int x1] [.int p7.1]
              intro h; have h := Option.some.inj h; subst h
              exact kx_iret hX hE ok_H_count (nx := 93) rfl rfl ⟨Nat.le_of_ble_eq_true rfl, Nat.le_of_ble_eq_true rfl⟩
def M_H_told (I : HI) (x1 : Int32) : Option (Int32 × HI) := if x1 < (1 : Int32) then (Option.bind (M_H_error I (1 : Int32)) fun p2 => some (p2.1, p2.2)) else (if x1 ≤ (5 : Int32) then (grd (bnd x1 6) (some ((I 87 x1.toNatClampNeg), I))) else (Option.bind (M_H_error I (1 : Int32)) fun p5 => some (p5.1, p5.2)))
theorem s_H_told {G : xG} {d : Nat} (hd : 1 ≤ d) (C : HC) (I : HI) (x1 : Int32)  (r : Int32 × HI) : M_H_told I x1 = some r → kM G d m_H_told [.ref 0, .int x1] C I 0 0 (some (.int r.1)) C r.2 := by
  unfold M_H_told
  refine kM.of (by decide +kernel) (Nat.le_of_ble_eq_true rfl) (lv := [.ref 0, .int x1]) rfl (fun X hX hE => ?_)
  refine kx_go 3 (pc' := if x1 < (1 : Int32) then 10 else 5) (lv' := [.ref 0, .int x1]) (st' := []) hX ok_H_told rfl ?_
  refine kx_ite (fun c1 => ?_) (fun c1 => ?_)
  · refine kx_go 2 (pc' := 12) (lv' := [.ref 0, .int x1]) (st' := [.int (1 : Int32), .ref 0]) hX ok_H_told rfl ?_
    refine kx_bind (fun p2 hp2 => ?_)
    refine kx_V (r := 0) (as := [.int (1 : Int32)]) (by decide) hX ok_H_told (nx := 15) rfl l_H_60 (by decide) rfl (fun _ => s_H_error (G := G) (d := 0) (Nat.le_refl _) C I (1 : Int32) p2 hp2) (by omega) rfl (rest := []) rfl (Nat.le_of_ble_eq_true rfl) ⟨Nat.le_of_ble_eq_true rfl, Nat.le_of_ble_eq_true rfl⟩ ?_
    show _ → kW G X m_H_told C p2.2 0 0 15 [.ref 0, .int x1] [.int p2.1]
    intro h; have h := Option.some.inj h; subst h
    exact kx_iret hX hE ok_H_told (nx := 16) rfl rfl ⟨Nat.le_of_ble_eq_true rfl, Nat.le_of_ble_eq_true rfl⟩
  · refine kx_go 3 (pc' := if x1 ≤ (5 : Int32) then 16 else 10) (lv' := [.ref 0, .int x1]) (st' := []) hX ok_H_told rfl ?_
    refine kx_ite (fun c3 => ?_) (fun c3 => ?_)
    · refine kx_go 1 (pc' := 17) (lv' := [.ref 0, .int x1]) (st' := [.ref 0]) hX ok_H_told rfl ?_
      refine kx_getp hX ok_H_told rfl (q := 87) (nx := 20) rfl ?_
      refine kx_go 1 (pc' := 21) (lv' := [.ref 0, .int x1]) (st' := [.int x1, .ref 87]) hX ok_H_told rfl ?_
      refine kx_iald hX ok_H_told (w := 6) (nx := 22) rfl (fun b4 => ?_)
      intro h; have h := Option.some.inj h; subst h
      exact kx_iret hX hE ok_H_told (nx := 23) rfl rfl ⟨Nat.le_of_ble_eq_true rfl, Nat.le_of_ble_eq_true rfl⟩
    · refine kx_go 2 (pc' := 12) (lv' := [.ref 0, .int x1]) (st' := [.int (1 : Int32), .ref 0]) hX ok_H_told rfl ?_
      refine kx_bind (fun p5 hp5 => ?_)
      refine kx_V (r := 0) (as := [.int (1 : Int32)]) (by decide) hX ok_H_told (nx := 15) rfl l_H_60 (by decide) rfl (fun _ => s_H_error (G := G) (d := 0) (Nat.le_refl _) C I (1 : Int32) p5 hp5) (by omega) rfl (rest := []) rfl (Nat.le_of_ble_eq_true rfl) ⟨Nat.le_of_ble_eq_true rfl, Nat.le_of_ble_eq_true rfl⟩ ?_
      show _ → kW G X m_H_told C p5.2 0 0 15 [.ref 0, .int x1] [.int p5.1]
      intro h; have h := Option.some.inj h; subst h
      exact kx_iret hX hE ok_H_told (nx := 16) rfl rfl ⟨Nat.le_of_ble_eq_true rfl, Nat.le_of_ble_eq_true rfl⟩
