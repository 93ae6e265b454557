/-! the constructors (printed by wip/whole/gen_new.py) -/
theorem xw_aI : Cond.arrayClass (newarray.typeOf .int) ∈ xw := xw_at 193 (by decide +kernel)
theorem xw_aZ : Cond.arrayClass (newarray.typeOf .boolean) ∈ xw := xw_at 286 (by decide +kernel)
theorem mg_k {L : Nat} : ∀ j, j < 4 → kK (C0 L) (79 + 1 + j) = (13, 40) := by
  intro j hj
  rcases (show j = 0 ∨ j = 1 ∨ j = 2 ∨ j = 3 by omega) with rfl | rfl | rfl | rfl <;> rfl
theorem n_Stroke_init {G : xG} {d L n r : Nat} {O : HI} {Z : HI} {P : Nat → Nat → Option Nat} (hd : 1 ≤ d) (hr : r < n) (hr6 : r < 1000000) (hk : kK (C0 L) r = (0, 0)) : nM G d m_Stroke_init [.ref r] L O n Z P 0 0 n (xu Z r 5 9999) P := by
  refine nM.of (by decide +kernel) (Nat.le_of_ble_eq_true rfl) (lv := [.ref r]) rfl (fun X hX hE => ?_)
  refine nx_go 1 (pc' := 1) (lv' := [.ref r]) (st' := [.ref r]) hX ok_Stroke_init rfl ?_
  refine nx_obj hX ok_Stroke_init (nx := 4) rfl l_Stroke_3 (by omega) (Nat.le_of_ble_eq_true rfl) ?_
  refine nx_go 2 (pc' := 8) (lv' := [.ref r]) (st' := [.int (9999 : Int32), .ref r]) hX ok_Stroke_init rfl ?_
  refine nx_puti (c := 0) (w := 0) (k := 5) hX ok_Stroke_init rfl hr hr6 hk (nx := 11) rfl rfl rfl ?_
  exact nx_vret hX hE ok_Stroke_init (nx := 12) rfl rfl ⟨Nat.le_refl _, Nat.le_refl _⟩
def z_Text_init_16 (Z : HI) : HI := (xrow (xrow (xrow (xrow Z 17 z0) 18 z0) 19 z0) 20 z0)
def p_Text_init_16 (P : Nat → Nat → Option Nat) : Nat → Nat → Option Nat := (xup (xup (xprow (xup (xprow (xup (xprow (xup (xprow P 17 o0) 16 0 (some 17)) 18 o0) 16 1 (some 18)) 19 o0) 16 3 (some 19)) 20 o0) 16 4 (some 20)) 16 7 (some 1000002))
set_option maxRecDepth 20000 in
set_option maxHeartbeats 4000000 in
theorem n_Text_init_16 {G : xG} {d L : Nat} {O : HI} {Z : HI} {P : Nat → Nat → Option Nat} (hd : 1 ≤ d) : nM G d m_Text_init [.ref 16] L O 17 Z P 4 150 21 (z_Text_init_16 Z) (p_Text_init_16 P) := by
  refine nM.of (by decide +kernel) (Nat.le_of_ble_eq_true rfl) (lv := [.ref 16]) rfl (fun X hX hE => ?_)
  refine nx_go 1 (pc' := 1) (lv' := [.ref 16]) (st' := [.ref 16]) hX ok_Text_init rfl ?_
  refine nx_obj hX ok_Text_init (nx := 4) rfl l_Text_3 (by omega) (Nat.le_of_ble_eq_true rfl) ?_
  refine nx_go 2 (pc' := 7) (lv' := [.ref 16]) (st' := [.int (50 : Int32), .ref 16]) hX ok_Text_init rfl ?_
  refine nx_newa (c := 13) (w := 50) (n' := 18) (c' := 1) (s' := 50) hX ok_Text_init (nx := 9) rfl (Or.inl ⟨rfl, rfl⟩) xw_aI (by decide) rfl (Nat.le_of_ble_eq_true rfl) ⟨Nat.le_of_ble_eq_true rfl, Nat.le_of_ble_eq_true rfl⟩ ⟨rfl, rfl, rfl⟩ ?_
  refine nx_putp (c := 7) (w := 0) (k := 0) hX ok_Text_init rfl (Nat.le_of_ble_eq_true rfl) rfl (nx := 12) rfl (Or.inr ⟨rfl, rfl, rfl⟩) rfl ?_
  refine nx_go 2 (pc' := 15) (lv' := [.ref 16]) (st' := [.int (50 : Int32), .ref 16]) hX ok_Text_init rfl ?_
  refine nx_newa (c := 13) (w := 50) (n' := 19) (c' := 2) (s' := 100) hX ok_Text_init (nx := 17) rfl (Or.inl ⟨rfl, rfl⟩) xw_aI (by decide) rfl (Nat.le_of_ble_eq_true rfl) ⟨Nat.le_of_ble_eq_true rfl, Nat.le_of_ble_eq_true rfl⟩ ⟨rfl, rfl, rfl⟩ ?_
  refine nx_putp (c := 7) (w := 0) (k := 1) hX ok_Text_init rfl (Nat.le_of_ble_eq_true rfl) rfl (nx := 20) rfl (Or.inr ⟨rfl, rfl, rfl⟩) rfl ?_
  refine nx_go 2 (pc' := 23) (lv' := [.ref 16]) (st' := [.int (50 : Int32), .ref 16]) hX ok_Text_init rfl ?_
  refine nx_newa (c := 13) (w := 50) (n' := 20) (c' := 3) (s' := 150) hX ok_Text_init (nx := 25) rfl (Or.inl ⟨rfl, rfl⟩) xw_aI (by decide) rfl (Nat.le_of_ble_eq_true rfl) ⟨Nat.le_of_ble_eq_true rfl, Nat.le_of_ble_eq_true rfl⟩ ⟨rfl, rfl, rfl⟩ ?_
  refine nx_putp (c := 7) (w := 0) (k := 3) hX ok_Text_init rfl (Nat.le_of_ble_eq_true rfl) rfl (nx := 28) rfl (Or.inr ⟨rfl, rfl, rfl⟩) rfl ?_
  refine nx_go 2 (pc' := 30) (lv' := [.ref 16]) (st' := [.int (0 : Int32), .ref 16]) hX ok_Text_init rfl ?_
  refine nx_newa (c := 13) (w := 0) (n' := 21) (c' := 4) (s' := 150) hX ok_Text_init (nx := 32) rfl (Or.inl ⟨rfl, rfl⟩) xw_aI (by decide) rfl (Nat.le_of_ble_eq_true rfl) ⟨Nat.le_of_ble_eq_true rfl, Nat.le_of_ble_eq_true rfl⟩ ⟨rfl, rfl, rfl⟩ ?_
  refine nx_putp (c := 7) (w := 0) (k := 4) hX ok_Text_init rfl (Nat.le_of_ble_eq_true rfl) rfl (nx := 35) rfl (Or.inl rfl) rfl ?_
  refine nx_go 1 (pc' := 36) (lv' := [.ref 16]) (st' := [.ref 16]) hX ok_Text_init rfl ?_
  refine nx_str hX ok_Text_init rfl (nx := 38) rfl ?_
  refine nx_putp (c := 7) (w := 0) (k := 7) hX ok_Text_init rfl (Nat.le_of_ble_eq_true rfl) rfl (nx := 41) rfl (Or.inl rfl) rfl ?_
  exact nx_vret hX hE ok_Text_init (nx := 42) rfl rfl ⟨Nat.le_of_ble_eq_true rfl, Nat.le_of_ble_eq_true rfl⟩
def z_Text_init_21 (Z : HI) : HI := (xrow (xrow (xrow (xrow Z 22 z0) 23 z0) 24 z0) 25 z0)
def p_Text_init_21 (P : Nat → Nat → Option Nat) : Nat → Nat → Option Nat := (xup (xup (xprow (xup (xprow (xup (xprow (xup (xprow P 22 o0) 21 0 (some 22)) 23 o0) 21 1 (some 23)) 24 o0) 21 3 (some 24)) 25 o0) 21 4 (some 25)) 21 7 (some 1000002))
set_option maxRecDepth 20000 in
set_option maxHeartbeats 4000000 in
theorem n_Text_init_21 {G : xG} {d L : Nat} {O : HI} {Z : HI} {P : Nat → Nat → Option Nat} (hd : 1 ≤ d) : nM G d m_Text_init [.ref 21] L O 22 Z P 4 150 26 (z_Text_init_21 Z) (p_Text_init_21 P) := by
  refine nM.of (by decide +kernel) (Nat.le_of_ble_eq_true rfl) (lv := [.ref 21]) rfl (fun X hX hE => ?_)
  refine nx_go 1 (pc' := 1) (lv' := [.ref 21]) (st' := [.ref 21]) hX ok_Text_init rfl ?_
  refine nx_obj hX ok_Text_init (nx := 4) rfl l_Text_3 (by omega) (Nat.le_of_ble_eq_true rfl) ?_
  refine nx_go 2 (pc' := 7) (lv' := [.ref 21]) (st' := [.int (50 : Int32), .ref 21]) hX ok_Text_init rfl ?_
  refine nx_newa (c := 13) (w := 50) (n' := 23) (c' := 1) (s' := 50) hX ok_Text_init (nx := 9) rfl (Or.inl ⟨rfl, rfl⟩) xw_aI (by decide) rfl (Nat.le_of_ble_eq_true rfl) ⟨Nat.le_of_ble_eq_true rfl, Nat.le_of_ble_eq_true rfl⟩ ⟨rfl, rfl, rfl⟩ ?_
  refine nx_putp (c := 7) (w := 0) (k := 0) hX ok_Text_init rfl (Nat.le_of_ble_eq_true rfl) rfl (nx := 12) rfl (Or.inr ⟨rfl, rfl, rfl⟩) rfl ?_
  refine nx_go 2 (pc' := 15) (lv' := [.ref 21]) (st' := [.int (50 : Int32), .ref 21]) hX ok_Text_init rfl ?_
  refine nx_newa (c := 13) (w := 50) (n' := 24) (c' := 2) (s' := 100) hX ok_Text_init (nx := 17) rfl (Or.inl ⟨rfl, rfl⟩) xw_aI (by decide) rfl (Nat.le_of_ble_eq_true rfl) ⟨Nat.le_of_ble_eq_true rfl, Nat.le_of_ble_eq_true rfl⟩ ⟨rfl, rfl, rfl⟩ ?_
  refine nx_putp (c := 7) (w := 0) (k := 1) hX ok_Text_init rfl (Nat.le_of_ble_eq_true rfl) rfl (nx := 20) rfl (Or.inr ⟨rfl, rfl, rfl⟩) rfl ?_
  refine nx_go 2 (pc' := 23) (lv' := [.ref 21]) (st' := [.int (50 : Int32), .ref 21]) hX ok_Text_init rfl ?_
  refine nx_newa (c := 13) (w := 50) (n' := 25) (c' := 3) (s' := 150) hX ok_Text_init (nx := 25) rfl (Or.inl ⟨rfl, rfl⟩) xw_aI (by decide) rfl (Nat.le_of_ble_eq_true rfl) ⟨Nat.le_of_ble_eq_true rfl, Nat.le_of_ble_eq_true rfl⟩ ⟨rfl, rfl, rfl⟩ ?_
  refine nx_putp (c := 7) (w := 0) (k := 3) hX ok_Text_init rfl (Nat.le_of_ble_eq_true rfl) rfl (nx := 28) rfl (Or.inr ⟨rfl, rfl, rfl⟩) rfl ?_
  refine nx_go 2 (pc' := 30) (lv' := [.ref 21]) (st' := [.int (0 : Int32), .ref 21]) hX ok_Text_init rfl ?_
  refine nx_newa (c := 13) (w := 0) (n' := 26) (c' := 4) (s' := 150) hX ok_Text_init (nx := 32) rfl (Or.inl ⟨rfl, rfl⟩) xw_aI (by decide) rfl (Nat.le_of_ble_eq_true rfl) ⟨Nat.le_of_ble_eq_true rfl, Nat.le_of_ble_eq_true rfl⟩ ⟨rfl, rfl, rfl⟩ ?_
  refine nx_putp (c := 7) (w := 0) (k := 4) hX ok_Text_init rfl (Nat.le_of_ble_eq_true rfl) rfl (nx := 35) rfl (Or.inl rfl) rfl ?_
  refine nx_go 1 (pc' := 36) (lv' := [.ref 21]) (st' := [.ref 21]) hX ok_Text_init rfl ?_
  refine nx_str hX ok_Text_init rfl (nx := 38) rfl ?_
  refine nx_putp (c := 7) (w := 0) (k := 7) hX ok_Text_init rfl (Nat.le_of_ble_eq_true rfl) rfl (nx := 41) rfl (Or.inl rfl) rfl ?_
  exact nx_vret hX hE ok_Text_init (nx := 42) rfl rfl ⟨Nat.le_of_ble_eq_true rfl, Nat.le_of_ble_eq_true rfl⟩
def z_Text_init_26 (Z : HI) : HI := (xrow (xrow (xrow (xrow Z 27 z0) 28 z0) 29 z0) 30 z0)
def p_Text_init_26 (P : Nat → Nat → Option Nat) : Nat → Nat → Option Nat := (xup (xup (xprow (xup (xprow (xup (xprow (xup (xprow P 27 o0) 26 0 (some 27)) 28 o0) 26 1 (some 28)) 29 o0) 26 3 (some 29)) 30 o0) 26 4 (some 30)) 26 7 (some 1000002))
set_option maxRecDepth 20000 in
set_option maxHeartbeats 4000000 in
theorem n_Text_init_26 {G : xG} {d L : Nat} {O : HI} {Z : HI} {P : Nat → Nat → Option Nat} (hd : 1 ≤ d) : nM G d m_Text_init [.ref 26] L O 27 Z P 4 150 31 (z_Text_init_26 Z) (p_Text_init_26 P) := by
  refine nM.of (by decide +kernel) (Nat.le_of_ble_eq_true rfl) (lv := [.ref 26]) rfl (fun X hX hE => ?_)
  refine nx_go 1 (pc' := 1) (lv' := [.ref 26]) (st' := [.ref 26]) hX ok_Text_init rfl ?_
  refine nx_obj hX ok_Text_init (nx := 4) rfl l_Text_3 (by omega) (Nat.le_of_ble_eq_true rfl) ?_
  refine nx_go 2 (pc' := 7) (lv' := [.ref 26]) (st' := [.int (50 : Int32), .ref 26]) hX ok_Text_init rfl ?_
  refine nx_newa (c := 13) (w := 50) (n' := 28) (c' := 1) (s' := 50) hX ok_Text_init (nx := 9) rfl (Or.inl ⟨rfl, rfl⟩) xw_aI (by decide) rfl (Nat.le_of_ble_eq_true rfl) ⟨Nat.le_of_ble_eq_true rfl, Nat.le_of_ble_eq_true rfl⟩ ⟨rfl, rfl, rfl⟩ ?_
  refine nx_putp (c := 7) (w := 0) (k := 0) hX ok_Text_init rfl (Nat.le_of_ble_eq_true rfl) rfl (nx := 12) rfl (Or.inr ⟨rfl, rfl, rfl⟩) rfl ?_
  refine nx_go 2 (pc' := 15) (lv' := [.ref 26]) (st' := [.int (50 : Int32), .ref 26]) hX ok_Text_init rfl ?_
  refine nx_newa (c := 13) (w := 50) (n' := 29) (c' := 2) (s' := 100) hX ok_Text_init (nx := 17) rfl (Or.inl ⟨rfl, rfl⟩) xw_aI (by decide) rfl (Nat.le_of_ble_eq_true rfl) ⟨Nat.le_of_ble_eq_true rfl, Nat.le_of_ble_eq_true rfl⟩ ⟨rfl, rfl, rfl⟩ ?_
  refine nx_putp (c := 7) (w := 0) (k := 1) hX ok_Text_init rfl (Nat.le_of_ble_eq_true rfl) rfl (nx := 20) rfl (Or.inr ⟨rfl, rfl, rfl⟩) rfl ?_
  refine nx_go 2 (pc' := 23) (lv' := [.ref 26]) (st' := [.int (50 : Int32), .ref 26]) hX ok_Text_init rfl ?_
  refine nx_newa (c := 13) (w := 50) (n' := 30) (c' := 3) (s' := 150) hX ok_Text_init (nx := 25) rfl (Or.inl ⟨rfl, rfl⟩) xw_aI (by decide) rfl (Nat.le_of_ble_eq_true rfl) ⟨Nat.le_of_ble_eq_true rfl, Nat.le_of_ble_eq_true rfl⟩ ⟨rfl, rfl, rfl⟩ ?_
  refine nx_putp (c := 7) (w := 0) (k := 3) hX ok_Text_init rfl (Nat.le_of_ble_eq_true rfl) rfl (nx := 28) rfl (Or.inr ⟨rfl, rfl, rfl⟩) rfl ?_
  refine nx_go 2 (pc' := 30) (lv' := [.ref 26]) (st' := [.int (0 : Int32), .ref 26]) hX ok_Text_init rfl ?_
  refine nx_newa (c := 13) (w := 0) (n' := 31) (c' := 4) (s' := 150) hX ok_Text_init (nx := 32) rfl (Or.inl ⟨rfl, rfl⟩) xw_aI (by decide) rfl (Nat.le_of_ble_eq_true rfl) ⟨Nat.le_of_ble_eq_true rfl, Nat.le_of_ble_eq_true rfl⟩ ⟨rfl, rfl, rfl⟩ ?_
  refine nx_putp (c := 7) (w := 0) (k := 4) hX ok_Text_init rfl (Nat.le_of_ble_eq_true rfl) rfl (nx := 35) rfl (Or.inl rfl) rfl ?_
  refine nx_go 1 (pc' := 36) (lv' := [.ref 26]) (st' := [.ref 26]) hX ok_Text_init rfl ?_
  refine nx_str hX ok_Text_init rfl (nx := 38) rfl ?_
  refine nx_putp (c := 7) (w := 0) (k := 7) hX ok_Text_init rfl (Nat.le_of_ble_eq_true rfl) rfl (nx := 41) rfl (Or.inl rfl) rfl ?_
  exact nx_vret hX hE ok_Text_init (nx := 42) rfl rfl ⟨Nat.le_of_ble_eq_true rfl, Nat.le_of_ble_eq_true rfl⟩
def z_Wall_init_1 (Z : HI) : HI := (xu (xrow (z_Text_init_26 (xrow (z_Text_init_21 (xrow (z_Text_init_16 (xrow (xrow (xrow (xrow (xrow (xrow (xu (xrow (xu (xrow (xu (xrow (xu (xrow (xu (xrow (xu (xrow (xu (xrow (xu (xrow (xrow Z 2 z0) 3 z0) 3 5 9999) 4 z0) 4 5 9999) 5 z0) 5 5 9999) 6 z0) 6 5 9999) 7 z0) 7 5 9999) 8 z0) 8 5 9999) 9 z0) 9 5 9999) 10 z0) 10 5 9999) 11 z0) 12 z0) 13 z0) 14 z0) 15 z0) 16 z0)) 21 z0)) 26 z0)) 31 z0) 1 12 1)
def p_Wall_init_1 (P : Nat → Nat → Option Nat) : Nat → Nat → Option Nat := (xup (xprow (xup (p_Text_init_26 (xprow (xup (p_Text_init_21 (xprow (xup (p_Text_init_16 (xprow (xup (xprow (xup (xprow (xup (xprow (xup (xprow (xup (xprow (xup (xprow (xup (xprow (xup (xprow (xup (xprow (xup (xprow (xup (xprow (xup (xprow (xup (xprow (xup (xprow P 2 o0) 1 0 (some 2)) 3 o0) 2 0 (some 3)) 4 o0) 2 1 (some 4)) 5 o0) 2 2 (some 5)) 6 o0) 2 3 (some 6)) 7 o0) 2 4 (some 7)) 8 o0) 2 5 (some 8)) 9 o0) 2 6 (some 9)) 10 o0) 2 7 (some 10)) 11 o0) 1 2 (some 11)) 12 o0) 1 3 (some 12)) 13 o0) 1 4 (some 13)) 14 o0) 1 6 (some 14)) 15 o0) 1 8 (some 15)) 16 o0)) 15 0 (some 16)) 21 o0)) 15 1 (some 21)) 26 o0)) 1 9 (some 26)) 31 o0) 1 10 (some 31))
set_option maxRecDepth 20000 in
set_option maxHeartbeats 4000000 in
theorem n_Wall_init_1 {G : xG} {d L : Nat} {O : HI} {Z : HI} {P : Nat → Nat → Option Nat} (hd : 2 ≤ d) : nM G d m_Wall_init [.ref 1] L O 2 Z P 30 646 32 (z_Wall_init_1 Z) (p_Wall_init_1 P) := by
  refine nM.of (by decide +kernel) (Nat.le_of_ble_eq_true rfl) (lv := [.ref 1, .null]) rfl (fun X hX hE => ?_)
  refine nx_go 1 (pc' := 1) (lv' := [.ref 1, .null]) (st' := [.ref 1]) hX ok_Wall_init rfl ?_
  refine nx_obj hX ok_Wall_init (nx := 4) rfl l_Wall_3 (by omega) (Nat.le_of_ble_eq_true rfl) ?_
  refine nx_go 2 (pc' := 7) (lv' := [.ref 1, .null]) (st' := [.int (8 : Int32), .ref 1]) hX ok_Wall_init rfl ?_
  refine nx_newq (c := 15) (w := 8) (n' := 3) (c' := 1) (s' := 8) hX ok_Wall_init (nx := 10) rfl (Or.inl ⟨rfl, rfl⟩) l_Wall_9.1 (by decide) rfl (Nat.le_of_ble_eq_true rfl) ⟨Nat.le_of_ble_eq_true rfl, Nat.le_of_ble_eq_true rfl⟩ ⟨rfl, rfl, rfl⟩ ?_
  refine nx_putp (c := 8) (w := 0) (k := 0) hX ok_Wall_init rfl (Nat.le_of_ble_eq_true rfl) rfl (nx := 13) rfl (Or.inr ⟨rfl, rfl, rfl⟩) rfl ?_
  refine nx_go 5 (pc' := if (8 : Int32) ≤ 0 then 40 else 21) (lv' := [.ref 1, .int (0 : Int32)]) (st' := []) hX ok_Wall_init rfl ?_
  refine nx_no (by decide) ?_
  refine nx_go 1 (pc' := 22) (lv' := [.ref 1, .int (0 : Int32)]) (st' := [.ref 1]) hX ok_Wall_init rfl ?_
  refine nx_getp (c := 8) (w := 0) (k := 0) (q := 2) hX ok_Wall_init rfl (Nat.le_of_ble_eq_true rfl) rfl (nx := 25) rfl rfl rfl ?_
  refine nx_go 1 (pc' := 26) (lv' := [.ref 1, .int (0 : Int32)]) (st' := [.int (0 : Int32), .ref 2]) hX ok_Wall_init rfl ?_
  refine nx_new (c := 0) (w := 0) (n' := 4) (c' := 2) (s' := 15) hX ok_Wall_init (nx := 29) rfl (by decide) l_Wall_9 rfl (Nat.le_of_ble_eq_true rfl) ⟨Nat.le_of_ble_eq_true rfl, Nat.le_of_ble_eq_true rfl⟩ ⟨rfl, rfl, rfl⟩ ?_
  refine nx_go 1 (pc' := 30) (lv' := [.ref 1, .int (0 : Int32)]) (st' := [.ref 3, .ref 3, .int (0 : Int32), .ref 2]) hX ok_Wall_init rfl ?_
  refine nx_I (as := []) (rest := [.ref 3, .int (0 : Int32), .ref 2]) (c' := 2) (s' := 15) hX ok_Wall_init (nx := 33) rfl l_Wall_17 rfl (Nat.le_of_ble_eq_true rfl) (n_Stroke_init (d := 1) (r := 3) (by omega) (Nat.le_of_ble_eq_true rfl) (Nat.le_of_ble_eq_true rfl) rfl) (by omega) rfl rfl (Nat.le_of_ble_eq_true rfl) ⟨Nat.le_of_ble_eq_true rfl, Nat.le_of_ble_eq_true rfl⟩ ⟨rfl, rfl⟩ ?_
  refine nx_aast (c := 15) (w := 8) (cq := 0) (wq := 0) (j := 0) hX ok_Wall_init (Nat.le_of_ble_eq_true rfl) rfl (Nat.le_of_ble_eq_true rfl) rfl (by decide) (Or.inl ⟨rfl, rfl⟩) rfl (nx := 34) rfl (by decide) (by decide) ?_
  refine nx_go 1 (pc' := 37) (lv' := [.ref 1, .int ((0 : Int32) + 1)]) (st' := []) hX ok_Wall_init rfl ?_
  rw [show ((0 : Int32) + 1) = 1 from by decide]
  refine nx_go 4 (pc' := if (8 : Int32) ≤ 1 then 40 else 21) (lv' := [.ref 1, .int (1 : Int32)]) (st' := []) hX ok_Wall_init rfl ?_
  refine nx_no (by decide) ?_
  refine nx_go 1 (pc' := 22) (lv' := [.ref 1, .int (1 : Int32)]) (st' := [.ref 1]) hX ok_Wall_init rfl ?_
  refine nx_getp (c := 8) (w := 0) (k := 0) (q := 2) hX ok_Wall_init rfl (Nat.le_of_ble_eq_true rfl) rfl (nx := 25) rfl rfl rfl ?_
  refine nx_go 1 (pc' := 26) (lv' := [.ref 1, .int (1 : Int32)]) (st' := [.int (1 : Int32), .ref 2]) hX ok_Wall_init rfl ?_
  refine nx_new (c := 0) (w := 0) (n' := 5) (c' := 3) (s' := 22) hX ok_Wall_init (nx := 29) rfl (by decide) l_Wall_9 rfl (Nat.le_of_ble_eq_true rfl) ⟨Nat.le_of_ble_eq_true rfl, Nat.le_of_ble_eq_true rfl⟩ ⟨rfl, rfl, rfl⟩ ?_
  refine nx_go 1 (pc' := 30) (lv' := [.ref 1, .int (1 : Int32)]) (st' := [.ref 4, .ref 4, .int (1 : Int32), .ref 2]) hX ok_Wall_init rfl ?_
  refine nx_I (as := []) (rest := [.ref 4, .int (1 : Int32), .ref 2]) (c' := 3) (s' := 22) hX ok_Wall_init (nx := 33) rfl l_Wall_17 rfl (Nat.le_of_ble_eq_true rfl) (n_Stroke_init (d := 1) (r := 4) (by omega) (Nat.le_of_ble_eq_true rfl) (Nat.le_of_ble_eq_true rfl) rfl) (by omega) rfl rfl (Nat.le_of_ble_eq_true rfl) ⟨Nat.le_of_ble_eq_true rfl, Nat.le_of_ble_eq_true rfl⟩ ⟨rfl, rfl⟩ ?_
  refine nx_aast (c := 15) (w := 8) (cq := 0) (wq := 0) (j := 1) hX ok_Wall_init (Nat.le_of_ble_eq_true rfl) rfl (Nat.le_of_ble_eq_true rfl) rfl (by decide) (Or.inl ⟨rfl, rfl⟩) rfl (nx := 34) rfl (by decide) (by decide) ?_
  refine nx_go 1 (pc' := 37) (lv' := [.ref 1, .int ((1 : Int32) + 1)]) (st' := []) hX ok_Wall_init rfl ?_
  rw [show ((1 : Int32) + 1) = 2 from by decide]
  refine nx_go 4 (pc' := if (8 : Int32) ≤ 2 then 40 else 21) (lv' := [.ref 1, .int (2 : Int32)]) (st' := []) hX ok_Wall_init rfl ?_
  refine nx_no (by decide) ?_
  refine nx_go 1 (pc' := 22) (lv' := [.ref 1, .int (2 : Int32)]) (st' := [.ref 1]) hX ok_Wall_init rfl ?_
  refine nx_getp (c := 8) (w := 0) (k := 0) (q := 2) hX ok_Wall_init rfl (Nat.le_of_ble_eq_true rfl) rfl (nx := 25) rfl rfl rfl ?_
  refine nx_go 1 (pc' := 26) (lv' := [.ref 1, .int (2 : Int32)]) (st' := [.int (2 : Int32), .ref 2]) hX ok_Wall_init rfl ?_
  refine nx_new (c := 0) (w := 0) (n' := 6) (c' := 4) (s' := 29) hX ok_Wall_init (nx := 29) rfl (by decide) l_Wall_9 rfl (Nat.le_of_ble_eq_true rfl) ⟨Nat.le_of_ble_eq_true rfl, Nat.le_of_ble_eq_true rfl⟩ ⟨rfl, rfl, rfl⟩ ?_
  refine nx_go 1 (pc' := 30) (lv' := [.ref 1, .int (2 : Int32)]) (st' := [.ref 5, .ref 5, .int (2 : Int32), .ref 2]) hX ok_Wall_init rfl ?_
  refine nx_I (as := []) (rest := [.ref 5, .int (2 : Int32), .ref 2]) (c' := 4) (s' := 29) hX ok_Wall_init (nx := 33) rfl l_Wall_17 rfl (Nat.le_of_ble_eq_true rfl) (n_Stroke_init (d := 1) (r := 5) (by omega) (Nat.le_of_ble_eq_true rfl) (Nat.le_of_ble_eq_true rfl) rfl) (by omega) rfl rfl (Nat.le_of_ble_eq_true rfl) ⟨Nat.le_of_ble_eq_true rfl, Nat.le_of_ble_eq_true rfl⟩ ⟨rfl, rfl⟩ ?_
  refine nx_aast (c := 15) (w := 8) (cq := 0) (wq := 0) (j := 2) hX ok_Wall_init (Nat.le_of_ble_eq_true rfl) rfl (Nat.le_of_ble_eq_true rfl) rfl (by decide) (Or.inl ⟨rfl, rfl⟩) rfl (nx := 34) rfl (by decide) (by decide) ?_
  refine nx_go 1 (pc' := 37) (lv' := [.ref 1, .int ((2 : Int32) + 1)]) (st' := []) hX ok_Wall_init rfl ?_
  rw [show ((2 : Int32) + 1) = 3 from by decide]
  refine nx_go 4 (pc' := if (8 : Int32) ≤ 3 then 40 else 21) (lv' := [.ref 1, .int (3 : Int32)]) (st' := []) hX ok_Wall_init rfl ?_
  refine nx_no (by decide) ?_
  refine nx_go 1 (pc' := 22) (lv' := [.ref 1, .int (3 : Int32)]) (st' := [.ref 1]) hX ok_Wall_init rfl ?_
  refine nx_getp (c := 8) (w := 0) (k := 0) (q := 2) hX ok_Wall_init rfl (Nat.le_of_ble_eq_true rfl) rfl (nx := 25) rfl rfl rfl ?_
  refine nx_go 1 (pc' := 26) (lv' := [.ref 1, .int (3 : Int32)]) (st' := [.int (3 : Int32), .ref 2]) hX ok_Wall_init rfl ?_
  refine nx_new (c := 0) (w := 0) (n' := 7) (c' := 5) (s' := 36) hX ok_Wall_init (nx := 29) rfl (by decide) l_Wall_9 rfl (Nat.le_of_ble_eq_true rfl) ⟨Nat.le_of_ble_eq_true rfl, Nat.le_of_ble_eq_true rfl⟩ ⟨rfl, rfl, rfl⟩ ?_
  refine nx_go 1 (pc' := 30) (lv' := [.ref 1, .int (3 : Int32)]) (st' := [.ref 6, .ref 6, .int (3 : Int32), .ref 2]) hX ok_Wall_init rfl ?_
  refine nx_I (as := []) (rest := [.ref 6, .int (3 : Int32), .ref 2]) (c' := 5) (s' := 36) hX ok_Wall_init (nx := 33) rfl l_Wall_17 rfl (Nat.le_of_ble_eq_true rfl) (n_Stroke_init (d := 1) (r := 6) (by omega) (Nat.le_of_ble_eq_true rfl) (Nat.le_of_ble_eq_true rfl) rfl) (by omega) rfl rfl (Nat.le_of_ble_eq_true rfl) ⟨Nat.le_of_ble_eq_true rfl, Nat.le_of_ble_eq_true rfl⟩ ⟨rfl, rfl⟩ ?_
  refine nx_aast (c := 15) (w := 8) (cq := 0) (wq := 0) (j := 3) hX ok_Wall_init (Nat.le_of_ble_eq_true rfl) rfl (Nat.le_of_ble_eq_true rfl) rfl (by decide) (Or.inl ⟨rfl, rfl⟩) rfl (nx := 34) rfl (by decide) (by decide) ?_
  refine nx_go 1 (pc' := 37) (lv' := [.ref 1, .int ((3 : Int32) + 1)]) (st' := []) hX ok_Wall_init rfl ?_
  rw [show ((3 : Int32) + 1) = 4 from by decide]
  refine nx_go 4 (pc' := if (8 : Int32) ≤ 4 then 40 else 21) (lv' := [.ref 1, .int (4 : Int32)]) (st' := []) hX ok_Wall_init rfl ?_
  refine nx_no (by decide) ?_
  refine nx_go 1 (pc' := 22) (lv' := [.ref 1, .int (4 : Int32)]) (st' := [.ref 1]) hX ok_Wall_init rfl ?_
  refine nx_getp (c := 8) (w := 0) (k := 0) (q := 2) hX ok_Wall_init rfl (Nat.le_of_ble_eq_true rfl) rfl (nx := 25) rfl rfl rfl ?_
  refine nx_go 1 (pc' := 26) (lv' := [.ref 1, .int (4 : Int32)]) (st' := [.int (4 : Int32), .ref 2]) hX ok_Wall_init rfl ?_
  refine nx_new (c := 0) (w := 0) (n' := 8) (c' := 6) (s' := 43) hX ok_Wall_init (nx := 29) rfl (by decide) l_Wall_9 rfl (Nat.le_of_ble_eq_true rfl) ⟨Nat.le_of_ble_eq_true rfl, Nat.le_of_ble_eq_true rfl⟩ ⟨rfl, rfl, rfl⟩ ?_
  refine nx_go 1 (pc' := 30) (lv' := [.ref 1, .int (4 : Int32)]) (st' := [.ref 7, .ref 7, .int (4 : Int32), .ref 2]) hX ok_Wall_init rfl ?_
  refine nx_I (as := []) (rest := [.ref 7, .int (4 : Int32), .ref 2]) (c' := 6) (s' := 43) hX ok_Wall_init (nx := 33) rfl l_Wall_17 rfl (Nat.le_of_ble_eq_true rfl) (n_Stroke_init (d := 1) (r := 7) (by omega) (Nat.le_of_ble_eq_true rfl) (Nat.le_of_ble_eq_true rfl) rfl) (by omega) rfl rfl (Nat.le_of_ble_eq_true rfl) ⟨Nat.le_of_ble_eq_true rfl, Nat.le_of_ble_eq_true rfl⟩ ⟨rfl, rfl⟩ ?_
  refine nx_aast (c := 15) (w := 8) (cq := 0) (wq := 0) (j := 4) hX ok_Wall_init (Nat.le_of_ble_eq_true rfl) rfl (Nat.le_of_ble_eq_true rfl) rfl (by decide) (Or.inl ⟨rfl, rfl⟩) rfl (nx := 34) rfl (by decide) (by decide) ?_
  refine nx_go 1 (pc' := 37) (lv' := [.ref 1, .int ((4 : Int32) + 1)]) (st' := []) hX ok_Wall_init rfl ?_
  rw [show ((4 : Int32) + 1) = 5 from by decide]
  refine nx_go 4 (pc' := if (8 : Int32) ≤ 5 then 40 else 21) (lv' := [.ref 1, .int (5 : Int32)]) (st' := []) hX ok_Wall_init rfl ?_
  refine nx_no (by decide) ?_
  refine nx_go 1 (pc' := 22) (lv' := [.ref 1, .int (5 : Int32)]) (st' := [.ref 1]) hX ok_Wall_init rfl ?_
  refine nx_getp (c := 8) (w := 0) (k := 0) (q := 2) hX ok_Wall_init rfl (Nat.le_of_ble_eq_true rfl) rfl (nx := 25) rfl rfl rfl ?_
  refine nx_go 1 (pc' := 26) (lv' := [.ref 1, .int (5 : Int32)]) (st' := [.int (5 : Int32), .ref 2]) hX ok_Wall_init rfl ?_
  refine nx_new (c := 0) (w := 0) (n' := 9) (c' := 7) (s' := 50) hX ok_Wall_init (nx := 29) rfl (by decide) l_Wall_9 rfl (Nat.le_of_ble_eq_true rfl) ⟨Nat.le_of_ble_eq_true rfl, Nat.le_of_ble_eq_true rfl⟩ ⟨rfl, rfl, rfl⟩ ?_
  refine nx_go 1 (pc' := 30) (lv' := [.ref 1, .int (5 : Int32)]) (st' := [.ref 8, .ref 8, .int (5 : Int32), .ref 2]) hX ok_Wall_init rfl ?_
  refine nx_I (as := []) (rest := [.ref 8, .int (5 : Int32), .ref 2]) (c' := 7) (s' := 50) hX ok_Wall_init (nx := 33) rfl l_Wall_17 rfl (Nat.le_of_ble_eq_true rfl) (n_Stroke_init (d := 1) (r := 8) (by omega) (Nat.le_of_ble_eq_true rfl) (Nat.le_of_ble_eq_true rfl) rfl) (by omega) rfl rfl (Nat.le_of_ble_eq_true rfl) ⟨Nat.le_of_ble_eq_true rfl, Nat.le_of_ble_eq_true rfl⟩ ⟨rfl, rfl⟩ ?_
  refine nx_aast (c := 15) (w := 8) (cq := 0) (wq := 0) (j := 5) hX ok_Wall_init (Nat.le_of_ble_eq_true rfl) rfl (Nat.le_of_ble_eq_true rfl) rfl (by decide) (Or.inl ⟨rfl, rfl⟩) rfl (nx := 34) rfl (by decide) (by decide) ?_
  refine nx_go 1 (pc' := 37) (lv' := [.ref 1, .int ((5 : Int32) + 1)]) (st' := []) hX ok_Wall_init rfl ?_
  rw [show ((5 : Int32) + 1) = 6 from by decide]
  refine nx_go 4 (pc' := if (8 : Int32) ≤ 6 then 40 else 21) (lv' := [.ref 1, .int (6 : Int32)]) (st' := []) hX ok_Wall_init rfl ?_
  refine nx_no (by decide) ?_
  refine nx_go 1 (pc' := 22) (lv' := [.ref 1, .int (6 : Int32)]) (st' := [.ref 1]) hX ok_Wall_init rfl ?_
  refine nx_getp (c := 8) (w := 0) (k := 0) (q := 2) hX ok_Wall_init rfl (Nat.le_of_ble_eq_true rfl) rfl (nx := 25) rfl rfl rfl ?_
  refine nx_go 1 (pc' := 26) (lv' := [.ref 1, .int (6 : Int32)]) (st' := [.int (6 : Int32), .ref 2]) hX ok_Wall_init rfl ?_
  refine nx_new (c := 0) (w := 0) (n' := 10) (c' := 8) (s' := 57) hX ok_Wall_init (nx := 29) rfl (by decide) l_Wall_9 rfl (Nat.le_of_ble_eq_true rfl) ⟨Nat.le_of_ble_eq_true rfl, Nat.le_of_ble_eq_true rfl⟩ ⟨rfl, rfl, rfl⟩ ?_
  refine nx_go 1 (pc' := 30) (lv' := [.ref 1, .int (6 : Int32)]) (st' := [.ref 9, .ref 9, .int (6 : Int32), .ref 2]) hX ok_Wall_init rfl ?_
  refine nx_I (as := []) (rest := [.ref 9, .int (6 : Int32), .ref 2]) (c' := 8) (s' := 57) hX ok_Wall_init (nx := 33) rfl l_Wall_17 rfl (Nat.le_of_ble_eq_true rfl) (n_Stroke_init (d := 1) (r := 9) (by omega) (Nat.le_of_ble_eq_true rfl) (Nat.le_of_ble_eq_true rfl) rfl) (by omega) rfl rfl (Nat.le_of_ble_eq_true rfl) ⟨Nat.le_of_ble_eq_true rfl, Nat.le_of_ble_eq_true rfl⟩ ⟨rfl, rfl⟩ ?_
  refine nx_aast (c := 15) (w := 8) (cq := 0) (wq := 0) (j := 6) hX ok_Wall_init (Nat.le_of_ble_eq_true rfl) rfl (Nat.le_of_ble_eq_true rfl) rfl (by decide) (Or.inl ⟨rfl, rfl⟩) rfl (nx := 34) rfl (by decide) (by decide) ?_
  refine nx_go 1 (pc' := 37) (lv' := [.ref 1, .int ((6 : Int32) + 1)]) (st' := []) hX ok_Wall_init rfl ?_
  rw [show ((6 : Int32) + 1) = 7 from by decide]
  refine nx_go 4 (pc' := if (8 : Int32) ≤ 7 then 40 else 21) (lv' := [.ref 1, .int (7 : Int32)]) (st' := []) hX ok_Wall_init rfl ?_
  refine nx_no (by decide) ?_
  refine nx_go 1 (pc' := 22) (lv' := [.ref 1, .int (7 : Int32)]) (st' := [.ref 1]) hX ok_Wall_init rfl ?_
  refine nx_getp (c := 8) (w := 0) (k := 0) (q := 2) hX ok_Wall_init rfl (Nat.le_of_ble_eq_true rfl) rfl (nx := 25) rfl rfl rfl ?_
  refine nx_go 1 (pc' := 26) (lv' := [.ref 1, .int (7 : Int32)]) (st' := [.int (7 : Int32), .ref 2]) hX ok_Wall_init rfl ?_
  refine nx_new (c := 0) (w := 0) (n' := 11) (c' := 9) (s' := 64) hX ok_Wall_init (nx := 29) rfl (by decide) l_Wall_9 rfl (Nat.le_of_ble_eq_true rfl) ⟨Nat.le_of_ble_eq_true rfl, Nat.le_of_ble_eq_true rfl⟩ ⟨rfl, rfl, rfl⟩ ?_
  refine nx_go 1 (pc' := 30) (lv' := [.ref 1, .int (7 : Int32)]) (st' := [.ref 10, .ref 10, .int (7 : Int32), .ref 2]) hX ok_Wall_init rfl ?_
  refine nx_I (as := []) (rest := [.ref 10, .int (7 : Int32), .ref 2]) (c' := 9) (s' := 64) hX ok_Wall_init (nx := 33) rfl l_Wall_17 rfl (Nat.le_of_ble_eq_true rfl) (n_Stroke_init (d := 1) (r := 10) (by omega) (Nat.le_of_ble_eq_true rfl) (Nat.le_of_ble_eq_true rfl) rfl) (by omega) rfl rfl (Nat.le_of_ble_eq_true rfl) ⟨Nat.le_of_ble_eq_true rfl, Nat.le_of_ble_eq_true rfl⟩ ⟨rfl, rfl⟩ ?_
  refine nx_aast (c := 15) (w := 8) (cq := 0) (wq := 0) (j := 7) hX ok_Wall_init (Nat.le_of_ble_eq_true rfl) rfl (Nat.le_of_ble_eq_true rfl) rfl (by decide) (Or.inl ⟨rfl, rfl⟩) rfl (nx := 34) rfl (by decide) (by decide) ?_
  refine nx_go 1 (pc' := 37) (lv' := [.ref 1, .int ((7 : Int32) + 1)]) (st' := []) hX ok_Wall_init rfl ?_
  rw [show ((7 : Int32) + 1) = 8 from by decide]
  refine nx_go 4 (pc' := if (8 : Int32) ≤ 8 then 40 else 21) (lv' := [.ref 1, .int (8 : Int32)]) (st' := []) hX ok_Wall_init rfl ?_
  refine nx_yes (by decide) ?_
  refine nx_go 2 (pc' := 43) (lv' := [.ref 1, .int (8 : Int32)]) (st' := [.int (12 : Int32), .ref 1]) hX ok_Wall_init rfl ?_
  refine nx_newa (c := 13) (w := 12) (n' := 12) (c' := 10) (s' := 76) hX ok_Wall_init (nx := 45) rfl (Or.inl ⟨rfl, rfl⟩) xw_aI (by decide) rfl (Nat.le_of_ble_eq_true rfl) ⟨Nat.le_of_ble_eq_true rfl, Nat.le_of_ble_eq_true rfl⟩ ⟨rfl, rfl, rfl⟩ ?_
  refine nx_putp (c := 8) (w := 0) (k := 2) hX ok_Wall_init rfl (Nat.le_of_ble_eq_true rfl) rfl (nx := 48) rfl (Or.inr ⟨rfl, rfl, rfl⟩) rfl ?_
  refine nx_go 2 (pc' := 51) (lv' := [.ref 1, .int (8 : Int32)]) (st' := [.int (12 : Int32), .ref 1]) hX ok_Wall_init rfl ?_
  refine nx_newa (c := 13) (w := 12) (n' := 13) (c' := 11) (s' := 88) hX ok_Wall_init (nx := 53) rfl (Or.inl ⟨rfl, rfl⟩) xw_aI (by decide) rfl (Nat.le_of_ble_eq_true rfl) ⟨Nat.le_of_ble_eq_true rfl, Nat.le_of_ble_eq_true rfl⟩ ⟨rfl, rfl, rfl⟩ ?_
  refine nx_putp (c := 8) (w := 0) (k := 3) hX ok_Wall_init rfl (Nat.le_of_ble_eq_true rfl) rfl (nx := 56) rfl (Or.inr ⟨rfl, rfl, rfl⟩) rfl ?_
  refine nx_go 2 (pc' := 59) (lv' := [.ref 1, .int (8 : Int32)]) (st' := [.int (12 : Int32), .ref 1]) hX ok_Wall_init rfl ?_
  refine nx_newa (c := 13) (w := 12) (n' := 14) (c' := 12) (s' := 100) hX ok_Wall_init (nx := 61) rfl (Or.inl ⟨rfl, rfl⟩) xw_aI (by decide) rfl (Nat.le_of_ble_eq_true rfl) ⟨Nat.le_of_ble_eq_true rfl, Nat.le_of_ble_eq_true rfl⟩ ⟨rfl, rfl, rfl⟩ ?_
  refine nx_putp (c := 8) (w := 0) (k := 4) hX ok_Wall_init rfl (Nat.le_of_ble_eq_true rfl) rfl (nx := 64) rfl (Or.inr ⟨rfl, rfl, rfl⟩) rfl ?_
  refine nx_go 2 (pc' := 67) (lv' := [.ref 1, .int (8 : Int32)]) (st' := [.int (50 : Int32), .ref 1]) hX ok_Wall_init rfl ?_
  refine nx_newa (c := 13) (w := 50) (n' := 15) (c' := 13) (s' := 150) hX ok_Wall_init (nx := 69) rfl (Or.inl ⟨rfl, rfl⟩) xw_aI (by decide) rfl (Nat.le_of_ble_eq_true rfl) ⟨Nat.le_of_ble_eq_true rfl, Nat.le_of_ble_eq_true rfl⟩ ⟨rfl, rfl, rfl⟩ ?_
  refine nx_putp (c := 8) (w := 0) (k := 6) hX ok_Wall_init rfl (Nat.le_of_ble_eq_true rfl) rfl (nx := 72) rfl (Or.inr ⟨rfl, rfl, rfl⟩) rfl ?_
  refine nx_go 2 (pc' := 74) (lv' := [.ref 1, .int (8 : Int32)]) (st' := [.int (2 : Int32), .ref 1]) hX ok_Wall_init rfl ?_
  refine nx_newq (c := 16) (w := 2) (n' := 16) (c' := 14) (s' := 152) hX ok_Wall_init (nx := 77) rfl (Or.inr ⟨rfl, rfl⟩) l_Wall_31.1 (by decide) rfl (Nat.le_of_ble_eq_true rfl) ⟨Nat.le_of_ble_eq_true rfl, Nat.le_of_ble_eq_true rfl⟩ ⟨rfl, rfl, rfl⟩ ?_
  refine nx_putp (c := 8) (w := 0) (k := 8) hX ok_Wall_init rfl (Nat.le_of_ble_eq_true rfl) rfl (nx := 80) rfl (Or.inr ⟨rfl, rfl, rfl⟩) rfl ?_
  refine nx_go 1 (pc' := 81) (lv' := [.ref 1, .int (8 : Int32)]) (st' := [.ref 1]) hX ok_Wall_init rfl ?_
  refine nx_getp (c := 8) (w := 0) (k := 8) (q := 15) hX ok_Wall_init rfl (Nat.le_of_ble_eq_true rfl) rfl (nx := 84) rfl rfl rfl ?_
  refine nx_go 1 (pc' := 85) (lv' := [.ref 1, .int (8 : Int32)]) (st' := [.int (0 : Int32), .ref 15]) hX ok_Wall_init rfl ?_
  refine nx_new (c := 7) (w := 0) (n' := 17) (c' := 15) (s' := 160) hX ok_Wall_init (nx := 88) rfl (by decide) l_Wall_31 rfl (Nat.le_of_ble_eq_true rfl) ⟨Nat.le_of_ble_eq_true rfl, Nat.le_of_ble_eq_true rfl⟩ ⟨rfl, rfl, rfl⟩ ?_
  refine nx_go 1 (pc' := 89) (lv' := [.ref 1, .int (8 : Int32)]) (st' := [.ref 16, .ref 16, .int (0 : Int32), .ref 15]) hX ok_Wall_init rfl ?_
  refine nx_I (as := []) (rest := [.ref 16, .int (0 : Int32), .ref 15]) (c' := 19) (s' := 310) hX ok_Wall_init (nx := 92) rfl l_Wall_37 rfl (Nat.le_of_ble_eq_true rfl) (n_Text_init_16 (d := 1) (by omega)) (by omega) rfl rfl (Nat.le_of_ble_eq_true rfl) ⟨Nat.le_of_ble_eq_true rfl, Nat.le_of_ble_eq_true rfl⟩ ⟨rfl, rfl⟩ ?_
  refine nx_aast (c := 16) (w := 2) (cq := 7) (wq := 0) (j := 0) hX ok_Wall_init (Nat.le_of_ble_eq_true rfl) rfl (Nat.le_of_ble_eq_true rfl) rfl (by decide) (Or.inr ⟨rfl, rfl⟩) rfl (nx := 93) rfl (by decide) (by decide) ?_
  refine nx_go 1 (pc' := 94) (lv' := [.ref 1, .int (8 : Int32)]) (st' := [.ref 1]) hX ok_Wall_init rfl ?_
  refine nx_getp (c := 8) (w := 0) (k := 8) (q := 15) hX ok_Wall_init rfl (Nat.le_of_ble_eq_true rfl) rfl (nx := 97) rfl rfl rfl ?_
  refine nx_go 1 (pc' := 98) (lv' := [.ref 1, .int (8 : Int32)]) (st' := [.int (1 : Int32), .ref 15]) hX ok_Wall_init rfl ?_
  refine nx_new (c := 7) (w := 0) (n' := 22) (c' := 20) (s' := 318) hX ok_Wall_init (nx := 101) rfl (by decide) l_Wall_31 rfl (Nat.le_of_ble_eq_true rfl) ⟨Nat.le_of_ble_eq_true rfl, Nat.le_of_ble_eq_true rfl⟩ ⟨rfl, rfl, rfl⟩ ?_
  refine nx_go 1 (pc' := 102) (lv' := [.ref 1, .int (8 : Int32)]) (st' := [.ref 21, .ref 21, .int (1 : Int32), .ref 15]) hX ok_Wall_init rfl ?_
  refine nx_I (as := []) (rest := [.ref 21, .int (1 : Int32), .ref 15]) (c' := 24) (s' := 468) hX ok_Wall_init (nx := 105) rfl l_Wall_37 rfl (Nat.le_of_ble_eq_true rfl) (n_Text_init_21 (d := 1) (by omega)) (by omega) rfl rfl (Nat.le_of_ble_eq_true rfl) ⟨Nat.le_of_ble_eq_true rfl, Nat.le_of_ble_eq_true rfl⟩ ⟨rfl, rfl⟩ ?_
  refine nx_aast (c := 16) (w := 2) (cq := 7) (wq := 0) (j := 1) hX ok_Wall_init (Nat.le_of_ble_eq_true rfl) rfl (Nat.le_of_ble_eq_true rfl) rfl (by decide) (Or.inr ⟨rfl, rfl⟩) rfl (nx := 106) rfl (by decide) (by decide) ?_
  refine nx_go 1 (pc' := 107) (lv' := [.ref 1, .int (8 : Int32)]) (st' := [.ref 1]) hX ok_Wall_init rfl ?_
  refine nx_new (c := 7) (w := 0) (n' := 27) (c' := 25) (s' := 476) hX ok_Wall_init (nx := 110) rfl (by decide) l_Wall_31 rfl (Nat.le_of_ble_eq_true rfl) ⟨Nat.le_of_ble_eq_true rfl, Nat.le_of_ble_eq_true rfl⟩ ⟨rfl, rfl, rfl⟩ ?_
  refine nx_go 1 (pc' := 111) (lv' := [.ref 1, .int (8 : Int32)]) (st' := [.ref 26, .ref 26, .ref 1]) hX ok_Wall_init rfl ?_
  refine nx_I (as := []) (rest := [.ref 26, .ref 1]) (c' := 29) (s' := 626) hX ok_Wall_init (nx := 114) rfl l_Wall_37 rfl (Nat.le_of_ble_eq_true rfl) (n_Text_init_26 (d := 1) (by omega)) (by omega) rfl rfl (Nat.le_of_ble_eq_true rfl) ⟨Nat.le_of_ble_eq_true rfl, Nat.le_of_ble_eq_true rfl⟩ ⟨rfl, rfl⟩ ?_
  refine nx_putp (c := 8) (w := 0) (k := 9) hX ok_Wall_init rfl (Nat.le_of_ble_eq_true rfl) rfl (nx := 117) rfl (Or.inr ⟨rfl, rfl, rfl⟩) rfl ?_
  refine nx_go 2 (pc' := 120) (lv' := [.ref 1, .int (8 : Int32)]) (st' := [.int (20 : Int32), .ref 1]) hX ok_Wall_init rfl ?_
  refine nx_newa (c := 13) (w := 20) (n' := 32) (c' := 30) (s' := 646) hX ok_Wall_init (nx := 122) rfl (Or.inl ⟨rfl, rfl⟩) xw_aI (by decide) rfl (Nat.le_of_ble_eq_true rfl) ⟨Nat.le_of_ble_eq_true rfl, Nat.le_of_ble_eq_true rfl⟩ ⟨rfl, rfl, rfl⟩ ?_
  refine nx_putp (c := 8) (w := 0) (k := 10) hX ok_Wall_init rfl (Nat.le_of_ble_eq_true rfl) rfl (nx := 125) rfl (Or.inr ⟨rfl, rfl, rfl⟩) rfl ?_
  refine nx_go 2 (pc' := 127) (lv' := [.ref 1, .int (8 : Int32)]) (st' := [.int (1 : Int32), .ref 1]) hX ok_Wall_init rfl ?_
  refine nx_puti (c := 8) (w := 0) (k := 12) hX ok_Wall_init rfl (Nat.le_of_ble_eq_true rfl) (Nat.le_of_ble_eq_true rfl) rfl (nx := 130) rfl rfl rfl ?_
  exact nx_vret hX hE ok_Wall_init (nx := 131) rfl rfl ⟨Nat.le_of_ble_eq_true rfl, Nat.le_of_ble_eq_true rfl⟩
def z_Text_init_47 (Z : HI) : HI := (xrow (xrow (xrow (xrow Z 48 z0) 49 z0) 50 z0) 51 z0)
def p_Text_init_47 (P : Nat → Nat → Option Nat) : Nat → Nat → Option Nat := (xup (xup (xprow (xup (xprow (xup (xprow (xup (xprow P 48 o0) 47 0 (some 48)) 49 o0) 47 1 (some 49)) 50 o0) 47 3 (some 50)) 51 o0) 47 4 (some 51)) 47 7 (some 1000002))
set_option maxRecDepth 20000 in
set_option maxHeartbeats 4000000 in
theorem n_Text_init_47 {G : xG} {d L : Nat} {O : HI} {Z : HI} {P : Nat → Nat → Option Nat} (hd : 1 ≤ d) : nM G d m_Text_init [.ref 47] L O 48 Z P 4 150 52 (z_Text_init_47 Z) (p_Text_init_47 P) := by
  refine nM.of (by decide +kernel) (Nat.le_of_ble_eq_true rfl) (lv := [.ref 47]) rfl (fun X hX hE => ?_)
  refine nx_go 1 (pc' := 1) (lv' := [.ref 47]) (st' := [.ref 47]) hX ok_Text_init rfl ?_
  refine nx_obj hX ok_Text_init (nx := 4) rfl l_Text_3 (by omega) (Nat.le_of_ble_eq_true rfl) ?_
  refine nx_go 2 (pc' := 7) (lv' := [.ref 47]) (st' := [.int (50 : Int32), .ref 47]) hX ok_Text_init rfl ?_
  refine nx_newa (c := 13) (w := 50) (n' := 49) (c' := 1) (s' := 50) hX ok_Text_init (nx := 9) rfl (Or.inl ⟨rfl, rfl⟩) xw_aI (by decide) rfl (Nat.le_of_ble_eq_true rfl) ⟨Nat.le_of_ble_eq_true rfl, Nat.le_of_ble_eq_true rfl⟩ ⟨rfl, rfl, rfl⟩ ?_
  refine nx_putp (c := 7) (w := 0) (k := 0) hX ok_Text_init rfl (Nat.le_of_ble_eq_true rfl) rfl (nx := 12) rfl (Or.inr ⟨rfl, rfl, rfl⟩) rfl ?_
  refine nx_go 2 (pc' := 15) (lv' := [.ref 47]) (st' := [.int (50 : Int32), .ref 47]) hX ok_Text_init rfl ?_
  refine nx_newa (c := 13) (w := 50) (n' := 50) (c' := 2) (s' := 100) hX ok_Text_init (nx := 17) rfl (Or.inl ⟨rfl, rfl⟩) xw_aI (by decide) rfl (Nat.le_of_ble_eq_true rfl) ⟨Nat.le_of_ble_eq_true rfl, Nat.le_of_ble_eq_true rfl⟩ ⟨rfl, rfl, rfl⟩ ?_
  refine nx_putp (c := 7) (w := 0) (k := 1) hX ok_Text_init rfl (Nat.le_of_ble_eq_true rfl) rfl (nx := 20) rfl (Or.inr ⟨rfl, rfl, rfl⟩) rfl ?_
  refine nx_go 2 (pc' := 23) (lv' := [.ref 47]) (st' := [.int (50 : Int32), .ref 47]) hX ok_Text_init rfl ?_
  refine nx_newa (c := 13) (w := 50) (n' := 51) (c' := 3) (s' := 150) hX ok_Text_init (nx := 25) rfl (Or.inl ⟨rfl, rfl⟩) xw_aI (by decide) rfl (Nat.le_of_ble_eq_true rfl) ⟨Nat.le_of_ble_eq_true rfl, Nat.le_of_ble_eq_true rfl⟩ ⟨rfl, rfl, rfl⟩ ?_
  refine nx_putp (c := 7) (w := 0) (k := 3) hX ok_Text_init rfl (Nat.le_of_ble_eq_true rfl) rfl (nx := 28) rfl (Or.inr ⟨rfl, rfl, rfl⟩) rfl ?_
  refine nx_go 2 (pc' := 30) (lv' := [.ref 47]) (st' := [.int (0 : Int32), .ref 47]) hX ok_Text_init rfl ?_
  refine nx_newa (c := 13) (w := 0) (n' := 52) (c' := 4) (s' := 150) hX ok_Text_init (nx := 32) rfl (Or.inl ⟨rfl, rfl⟩) xw_aI (by decide) rfl (Nat.le_of_ble_eq_true rfl) ⟨Nat.le_of_ble_eq_true rfl, Nat.le_of_ble_eq_true rfl⟩ ⟨rfl, rfl, rfl⟩ ?_
  refine nx_putp (c := 7) (w := 0) (k := 4) hX ok_Text_init rfl (Nat.le_of_ble_eq_true rfl) rfl (nx := 35) rfl (Or.inl rfl) rfl ?_
  refine nx_go 1 (pc' := 36) (lv' := [.ref 47]) (st' := [.ref 47]) hX ok_Text_init rfl ?_
  refine nx_str hX ok_Text_init rfl (nx := 38) rfl ?_
  refine nx_putp (c := 7) (w := 0) (k := 7) hX ok_Text_init rfl (Nat.le_of_ble_eq_true rfl) rfl (nx := 41) rfl (Or.inl rfl) rfl ?_
  exact nx_vret hX hE ok_Text_init (nx := 42) rfl rfl ⟨Nat.le_of_ble_eq_true rfl, Nat.le_of_ble_eq_true rfl⟩
def z_Text_init_52 (Z : HI) : HI := (xrow (xrow (xrow (xrow Z 53 z0) 54 z0) 55 z0) 56 z0)
def p_Text_init_52 (P : Nat → Nat → Option Nat) : Nat → Nat → Option Nat := (xup (xup (xprow (xup (xprow (xup (xprow (xup (xprow P 53 o0) 52 0 (some 53)) 54 o0) 52 1 (some 54)) 55 o0) 52 3 (some 55)) 56 o0) 52 4 (some 56)) 52 7 (some 1000002))
set_option maxRecDepth 20000 in
set_option maxHeartbeats 4000000 in
theorem n_Text_init_52 {G : xG} {d L : Nat} {O : HI} {Z : HI} {P : Nat → Nat → Option Nat} (hd : 1 ≤ d) : nM G d m_Text_init [.ref 52] L O 53 Z P 4 150 57 (z_Text_init_52 Z) (p_Text_init_52 P) := by
  refine nM.of (by decide +kernel) (Nat.le_of_ble_eq_true rfl) (lv := [.ref 52]) rfl (fun X hX hE => ?_)
  refine nx_go 1 (pc' := 1) (lv' := [.ref 52]) (st' := [.ref 52]) hX ok_Text_init rfl ?_
  refine nx_obj hX ok_Text_init (nx := 4) rfl l_Text_3 (by omega) (Nat.le_of_ble_eq_true rfl) ?_
  refine nx_go 2 (pc' := 7) (lv' := [.ref 52]) (st' := [.int (50 : Int32), .ref 52]) hX ok_Text_init rfl ?_
  refine nx_newa (c := 13) (w := 50) (n' := 54) (c' := 1) (s' := 50) hX ok_Text_init (nx := 9) rfl (Or.inl ⟨rfl, rfl⟩) xw_aI (by decide) rfl (Nat.le_of_ble_eq_true rfl) ⟨Nat.le_of_ble_eq_true rfl, Nat.le_of_ble_eq_true rfl⟩ ⟨rfl, rfl, rfl⟩ ?_
  refine nx_putp (c := 7) (w := 0) (k := 0) hX ok_Text_init rfl (Nat.le_of_ble_eq_true rfl) rfl (nx := 12) rfl (Or.inr ⟨rfl, rfl, rfl⟩) rfl ?_
  refine nx_go 2 (pc' := 15) (lv' := [.ref 52]) (st' := [.int (50 : Int32), .ref 52]) hX ok_Text_init rfl ?_
  refine nx_newa (c := 13) (w := 50) (n' := 55) (c' := 2) (s' := 100) hX ok_Text_init (nx := 17) rfl (Or.inl ⟨rfl, rfl⟩) xw_aI (by decide) rfl (Nat.le_of_ble_eq_true rfl) ⟨Nat.le_of_ble_eq_true rfl, Nat.le_of_ble_eq_true rfl⟩ ⟨rfl, rfl, rfl⟩ ?_
  refine nx_putp (c := 7) (w := 0) (k := 1) hX ok_Text_init rfl (Nat.le_of_ble_eq_true rfl) rfl (nx := 20) rfl (Or.inr ⟨rfl, rfl, rfl⟩) rfl ?_
  refine nx_go 2 (pc' := 23) (lv' := [.ref 52]) (st' := [.int (50 : Int32), .ref 52]) hX ok_Text_init rfl ?_
  refine nx_newa (c := 13) (w := 50) (n' := 56) (c' := 3) (s' := 150) hX ok_Text_init (nx := 25) rfl (Or.inl ⟨rfl, rfl⟩) xw_aI (by decide) rfl (Nat.le_of_ble_eq_true rfl) ⟨Nat.le_of_ble_eq_true rfl, Nat.le_of_ble_eq_true rfl⟩ ⟨rfl, rfl, rfl⟩ ?_
  refine nx_putp (c := 7) (w := 0) (k := 3) hX ok_Text_init rfl (Nat.le_of_ble_eq_true rfl) rfl (nx := 28) rfl (Or.inr ⟨rfl, rfl, rfl⟩) rfl ?_
  refine nx_go 2 (pc' := 30) (lv' := [.ref 52]) (st' := [.int (0 : Int32), .ref 52]) hX ok_Text_init rfl ?_
  refine nx_newa (c := 13) (w := 0) (n' := 57) (c' := 4) (s' := 150) hX ok_Text_init (nx := 32) rfl (Or.inl ⟨rfl, rfl⟩) xw_aI (by decide) rfl (Nat.le_of_ble_eq_true rfl) ⟨Nat.le_of_ble_eq_true rfl, Nat.le_of_ble_eq_true rfl⟩ ⟨rfl, rfl, rfl⟩ ?_
  refine nx_putp (c := 7) (w := 0) (k := 4) hX ok_Text_init rfl (Nat.le_of_ble_eq_true rfl) rfl (nx := 35) rfl (Or.inl rfl) rfl ?_
  refine nx_go 1 (pc' := 36) (lv' := [.ref 52]) (st' := [.ref 52]) hX ok_Text_init rfl ?_
  refine nx_str hX ok_Text_init rfl (nx := 38) rfl ?_
  refine nx_putp (c := 7) (w := 0) (k := 7) hX ok_Text_init rfl (Nat.le_of_ble_eq_true rfl) rfl (nx := 41) rfl (Or.inl rfl) rfl ?_
  exact nx_vret hX hE ok_Text_init (nx := 42) rfl rfl ⟨Nat.le_of_ble_eq_true rfl, Nat.le_of_ble_eq_true rfl⟩
def z_Text_init_57 (Z : HI) : HI := (xrow (xrow (xrow (xrow Z 58 z0) 59 z0) 60 z0) 61 z0)
def p_Text_init_57 (P : Nat → Nat → Option Nat) : Nat → Nat → Option Nat := (xup (xup (xprow (xup (xprow (xup (xprow (xup (xprow P 58 o0) 57 0 (some 58)) 59 o0) 57 1 (some 59)) 60 o0) 57 3 (some 60)) 61 o0) 57 4 (some 61)) 57 7 (some 1000002))
set_option maxRecDepth 20000 in
set_option maxHeartbeats 4000000 in
theorem n_Text_init_57 {G : xG} {d L : Nat} {O : HI} {Z : HI} {P : Nat → Nat → Option Nat} (hd : 1 ≤ d) : nM G d m_Text_init [.ref 57] L O 58 Z P 4 150 62 (z_Text_init_57 Z) (p_Text_init_57 P) := by
  refine nM.of (by decide +kernel) (Nat.le_of_ble_eq_true rfl) (lv := [.ref 57]) rfl (fun X hX hE => ?_)
  refine nx_go 1 (pc' := 1) (lv' := [.ref 57]) (st' := [.ref 57]) hX ok_Text_init rfl ?_
  refine nx_obj hX ok_Text_init (nx := 4) rfl l_Text_3 (by omega) (Nat.le_of_ble_eq_true rfl) ?_
  refine nx_go 2 (pc' := 7) (lv' := [.ref 57]) (st' := [.int (50 : Int32), .ref 57]) hX ok_Text_init rfl ?_
  refine nx_newa (c := 13) (w := 50) (n' := 59) (c' := 1) (s' := 50) hX ok_Text_init (nx := 9) rfl (Or.inl ⟨rfl, rfl⟩) xw_aI (by decide) rfl (Nat.le_of_ble_eq_true rfl) ⟨Nat.le_of_ble_eq_true rfl, Nat.le_of_ble_eq_true rfl⟩ ⟨rfl, rfl, rfl⟩ ?_
  refine nx_putp (c := 7) (w := 0) (k := 0) hX ok_Text_init rfl (Nat.le_of_ble_eq_true rfl) rfl (nx := 12) rfl (Or.inr ⟨rfl, rfl, rfl⟩) rfl ?_
  refine nx_go 2 (pc' := 15) (lv' := [.ref 57]) (st' := [.int (50 : Int32), .ref 57]) hX ok_Text_init rfl ?_
  refine nx_newa (c := 13) (w := 50) (n' := 60) (c' := 2) (s' := 100) hX ok_Text_init (nx := 17) rfl (Or.inl ⟨rfl, rfl⟩) xw_aI (by decide) rfl (Nat.le_of_ble_eq_true rfl) ⟨Nat.le_of_ble_eq_true rfl, Nat.le_of_ble_eq_true rfl⟩ ⟨rfl, rfl, rfl⟩ ?_
  refine nx_putp (c := 7) (w := 0) (k := 1) hX ok_Text_init rfl (Nat.le_of_ble_eq_true rfl) rfl (nx := 20) rfl (Or.inr ⟨rfl, rfl, rfl⟩) rfl ?_
  refine nx_go 2 (pc' := 23) (lv' := [.ref 57]) (st' := [.int (50 : Int32), .ref 57]) hX ok_Text_init rfl ?_
  refine nx_newa (c := 13) (w := 50) (n' := 61) (c' := 3) (s' := 150) hX ok_Text_init (nx := 25) rfl (Or.inl ⟨rfl, rfl⟩) xw_aI (by decide) rfl (Nat.le_of_ble_eq_true rfl) ⟨Nat.le_of_ble_eq_true rfl, Nat.le_of_ble_eq_true rfl⟩ ⟨rfl, rfl, rfl⟩ ?_
  refine nx_putp (c := 7) (w := 0) (k := 3) hX ok_Text_init rfl (Nat.le_of_ble_eq_true rfl) rfl (nx := 28) rfl (Or.inr ⟨rfl, rfl, rfl⟩) rfl ?_
  refine nx_go 2 (pc' := 30) (lv' := [.ref 57]) (st' := [.int (0 : Int32), .ref 57]) hX ok_Text_init rfl ?_
  refine nx_newa (c := 13) (w := 0) (n' := 62) (c' := 4) (s' := 150) hX ok_Text_init (nx := 32) rfl (Or.inl ⟨rfl, rfl⟩) xw_aI (by decide) rfl (Nat.le_of_ble_eq_true rfl) ⟨Nat.le_of_ble_eq_true rfl, Nat.le_of_ble_eq_true rfl⟩ ⟨rfl, rfl, rfl⟩ ?_
  refine nx_putp (c := 7) (w := 0) (k := 4) hX ok_Text_init rfl (Nat.le_of_ble_eq_true rfl) rfl (nx := 35) rfl (Or.inl rfl) rfl ?_
  refine nx_go 1 (pc' := 36) (lv' := [.ref 57]) (st' := [.ref 57]) hX ok_Text_init rfl ?_
  refine nx_str hX ok_Text_init rfl (nx := 38) rfl ?_
  refine nx_putp (c := 7) (w := 0) (k := 7) hX ok_Text_init rfl (Nat.le_of_ble_eq_true rfl) rfl (nx := 41) rfl (Or.inl rfl) rfl ?_
  exact nx_vret hX hE ok_Text_init (nx := 42) rfl rfl ⟨Nat.le_of_ble_eq_true rfl, Nat.le_of_ble_eq_true rfl⟩
def z_Wall_init_32 (Z : HI) : HI := (xu (xrow (z_Text_init_57 (xrow (z_Text_init_52 (xrow (z_Text_init_47 (xrow (xrow (xrow (xrow (xrow (xrow (xu (xrow (xu (xrow (xu (xrow (xu (xrow (xu (xrow (xu (xrow (xu (xrow (xu (xrow (xrow Z 33 z0) 34 z0) 34 5 9999) 35 z0) 35 5 9999) 36 z0) 36 5 9999) 37 z0) 37 5 9999) 38 z0) 38 5 9999) 39 z0) 39 5 9999) 40 z0) 40 5 9999) 41 z0) 41 5 9999) 42 z0) 43 z0) 44 z0) 45 z0) 46 z0) 47 z0)) 52 z0)) 57 z0)) 62 z0) 32 12 1)
def p_Wall_init_32 (P : Nat → Nat → Option Nat) : Nat → Nat → Option Nat := (xup (xprow (xup (p_Text_init_57 (xprow (xup (p_Text_init_52 (xprow (xup (p_Text_init_47 (xprow (xup (xprow (xup (xprow (xup (xprow (xup (xprow (xup (xprow (xup (xprow (xup (xprow (xup (xprow (xup (xprow (xup (xprow (xup (xprow (xup (xprow (xup (xprow (xup (xprow P 33 o0) 32 0 (some 33)) 34 o0) 33 0 (some 34)) 35 o0) 33 1 (some 35)) 36 o0) 33 2 (some 36)) 37 o0) 33 3 (some 37)) 38 o0) 33 4 (some 38)) 39 o0) 33 5 (some 39)) 40 o0) 33 6 (some 40)) 41 o0) 33 7 (some 41)) 42 o0) 32 2 (some 42)) 43 o0) 32 3 (some 43)) 44 o0) 32 4 (some 44)) 45 o0) 32 6 (some 45)) 46 o0) 32 8 (some 46)) 47 o0)) 46 0 (some 47)) 52 o0)) 46 1 (some 52)) 57 o0)) 32 9 (some 57)) 62 o0) 32 10 (some 62))
set_option maxRecDepth 20000 in
set_option maxHeartbeats 4000000 in
theorem n_Wall_init_32 {G : xG} {d L : Nat} {O : HI} {Z : HI} {P : Nat → Nat → Option Nat} (hd : 2 ≤ d) : nM G d m_Wall_init [.ref 32] L O 33 Z P 30 646 63 (z_Wall_init_32 Z) (p_Wall_init_32 P) := by
  refine nM.of (by decide +kernel) (Nat.le_of_ble_eq_true rfl) (lv := [.ref 32, .null]) rfl (fun X hX hE => ?_)
  refine nx_go 1 (pc' := 1) (lv' := [.ref 32, .null]) (st' := [.ref 32]) hX ok_Wall_init rfl ?_
  refine nx_obj hX ok_Wall_init (nx := 4) rfl l_Wall_3 (by omega) (Nat.le_of_ble_eq_true rfl) ?_
  refine nx_go 2 (pc' := 7) (lv' := [.ref 32, .null]) (st' := [.int (8 : Int32), .ref 32]) hX ok_Wall_init rfl ?_
  refine nx_newq (c := 15) (w := 8) (n' := 34) (c' := 1) (s' := 8) hX ok_Wall_init (nx := 10) rfl (Or.inl ⟨rfl, rfl⟩) l_Wall_9.1 (by decide) rfl (Nat.le_of_ble_eq_true rfl) ⟨Nat.le_of_ble_eq_true rfl, Nat.le_of_ble_eq_true rfl⟩ ⟨rfl, rfl, rfl⟩ ?_
  refine nx_putp (c := 8) (w := 0) (k := 0) hX ok_Wall_init rfl (Nat.le_of_ble_eq_true rfl) rfl (nx := 13) rfl (Or.inr ⟨rfl, rfl, rfl⟩) rfl ?_
  refine nx_go 5 (pc' := if (8 : Int32) ≤ 0 then 40 else 21) (lv' := [.ref 32, .int (0 : Int32)]) (st' := []) hX ok_Wall_init rfl ?_
  refine nx_no (by decide) ?_
  refine nx_go 1 (pc' := 22) (lv' := [.ref 32, .int (0 : Int32)]) (st' := [.ref 32]) hX ok_Wall_init rfl ?_
  refine nx_getp (c := 8) (w := 0) (k := 0) (q := 33) hX ok_Wall_init rfl (Nat.le_of_ble_eq_true rfl) rfl (nx := 25) rfl rfl rfl ?_
  refine nx_go 1 (pc' := 26) (lv' := [.ref 32, .int (0 : Int32)]) (st' := [.int (0 : Int32), .ref 33]) hX ok_Wall_init rfl ?_
  refine nx_new (c := 0) (w := 0) (n' := 35) (c' := 2) (s' := 15) hX ok_Wall_init (nx := 29) rfl (by decide) l_Wall_9 rfl (Nat.le_of_ble_eq_true rfl) ⟨Nat.le_of_ble_eq_true rfl, Nat.le_of_ble_eq_true rfl⟩ ⟨rfl, rfl, rfl⟩ ?_
  refine nx_go 1 (pc' := 30) (lv' := [.ref 32, .int (0 : Int32)]) (st' := [.ref 34, .ref 34, .int (0 : Int32), .ref 33]) hX ok_Wall_init rfl ?_
  refine nx_I (as := []) (rest := [.ref 34, .int (0 : Int32), .ref 33]) (c' := 2) (s' := 15) hX ok_Wall_init (nx := 33) rfl l_Wall_17 rfl (Nat.le_of_ble_eq_true rfl) (n_Stroke_init (d := 1) (r := 34) (by omega) (Nat.le_of_ble_eq_true rfl) (Nat.le_of_ble_eq_true rfl) rfl) (by omega) rfl rfl (Nat.le_of_ble_eq_true rfl) ⟨Nat.le_of_ble_eq_true rfl, Nat.le_of_ble_eq_true rfl⟩ ⟨rfl, rfl⟩ ?_
  refine nx_aast (c := 15) (w := 8) (cq := 0) (wq := 0) (j := 0) hX ok_Wall_init (Nat.le_of_ble_eq_true rfl) rfl (Nat.le_of_ble_eq_true rfl) rfl (by decide) (Or.inl ⟨rfl, rfl⟩) rfl (nx := 34) rfl (by decide) (by decide) ?_
  refine nx_go 1 (pc' := 37) (lv' := [.ref 32, .int ((0 : Int32) + 1)]) (st' := []) hX ok_Wall_init rfl ?_
  rw [show ((0 : Int32) + 1) = 1 from by decide]
  refine nx_go 4 (pc' := if (8 : Int32) ≤ 1 then 40 else 21) (lv' := [.ref 32, .int (1 : Int32)]) (st' := []) hX ok_Wall_init rfl ?_
  refine nx_no (by decide) ?_
  refine nx_go 1 (pc' := 22) (lv' := [.ref 32, .int (1 : Int32)]) (st' := [.ref 32]) hX ok_Wall_init rfl ?_
  refine nx_getp (c := 8) (w := 0) (k := 0) (q := 33) hX ok_Wall_init rfl (Nat.le_of_ble_eq_true rfl) rfl (nx := 25) rfl rfl rfl ?_
  refine nx_go 1 (pc' := 26) (lv' := [.ref 32, .int (1 : Int32)]) (st' := [.int (1 : Int32), .ref 33]) hX ok_Wall_init rfl ?_
  refine nx_new (c := 0) (w := 0) (n' := 36) (c' := 3) (s' := 22) hX ok_Wall_init (nx := 29) rfl (by decide) l_Wall_9 rfl (Nat.le_of_ble_eq_true rfl) ⟨Nat.le_of_ble_eq_true rfl, Nat.le_of_ble_eq_true rfl⟩ ⟨rfl, rfl, rfl⟩ ?_
  refine nx_go 1 (pc' := 30) (lv' := [.ref 32, .int (1 : Int32)]) (st' := [.ref 35, .ref 35, .int (1 : Int32), .ref 33]) hX ok_Wall_init rfl ?_
  refine nx_I (as := []) (rest := [.ref 35, .int (1 : Int32), .ref 33]) (c' := 3) (s' := 22) hX ok_Wall_init (nx := 33) rfl l_Wall_17 rfl (Nat.le_of_ble_eq_true rfl) (n_Stroke_init (d := 1) (r := 35) (by omega) (Nat.le_of_ble_eq_true rfl) (Nat.le_of_ble_eq_true rfl) rfl) (by omega) rfl rfl (Nat.le_of_ble_eq_true rfl) ⟨Nat.le_of_ble_eq_true rfl, Nat.le_of_ble_eq_true rfl⟩ ⟨rfl, rfl⟩ ?_
  refine nx_aast (c := 15) (w := 8) (cq := 0) (wq := 0) (j := 1) hX ok_Wall_init (Nat.le_of_ble_eq_true rfl) rfl (Nat.le_of_ble_eq_true rfl) rfl (by decide) (Or.inl ⟨rfl, rfl⟩) rfl (nx := 34) rfl (by decide) (by decide) ?_
  refine nx_go 1 (pc' := 37) (lv' := [.ref 32, .int ((1 : Int32) + 1)]) (st' := []) hX ok_Wall_init rfl ?_
  rw [show ((1 : Int32) + 1) = 2 from by decide]
  refine nx_go 4 (pc' := if (8 : Int32) ≤ 2 then 40 else 21) (lv' := [.ref 32, .int (2 : Int32)]) (st' := []) hX ok_Wall_init rfl ?_
  refine nx_no (by decide) ?_
  refine nx_go 1 (pc' := 22) (lv' := [.ref 32, .int (2 : Int32)]) (st' := [.ref 32]) hX ok_Wall_init rfl ?_
  refine nx_getp (c := 8) (w := 0) (k := 0) (q := 33) hX ok_Wall_init rfl (Nat.le_of_ble_eq_true rfl) rfl (nx := 25) rfl rfl rfl ?_
  refine nx_go 1 (pc' := 26) (lv' := [.ref 32, .int (2 : Int32)]) (st' := [.int (2 : Int32), .ref 33]) hX ok_Wall_init rfl ?_
  refine nx_new (c := 0) (w := 0) (n' := 37) (c' := 4) (s' := 29) hX ok_Wall_init (nx := 29) rfl (by decide) l_Wall_9 rfl (Nat.le_of_ble_eq_true rfl) ⟨Nat.le_of_ble_eq_true rfl, Nat.le_of_ble_eq_true rfl⟩ ⟨rfl, rfl, rfl⟩ ?_
  refine nx_go 1 (pc' := 30) (lv' := [.ref 32, .int (2 : Int32)]) (st' := [.ref 36, .ref 36, .int (2 : Int32), .ref 33]) hX ok_Wall_init rfl ?_
  refine nx_I (as := []) (rest := [.ref 36, .int (2 : Int32), .ref 33]) (c' := 4) (s' := 29) hX ok_Wall_init (nx := 33) rfl l_Wall_17 rfl (Nat.le_of_ble_eq_true rfl) (n_Stroke_init (d := 1) (r := 36) (by omega) (Nat.le_of_ble_eq_true rfl) (Nat.le_of_ble_eq_true rfl) rfl) (by omega) rfl rfl (Nat.le_of_ble_eq_true rfl) ⟨Nat.le_of_ble_eq_true rfl, Nat.le_of_ble_eq_true rfl⟩ ⟨rfl, rfl⟩ ?_
  refine nx_aast (c := 15) (w := 8) (cq := 0) (wq := 0) (j := 2) hX ok_Wall_init (Nat.le_of_ble_eq_true rfl) rfl (Nat.le_of_ble_eq_true rfl) rfl (by decide) (Or.inl ⟨rfl, rfl⟩) rfl (nx := 34) rfl (by decide) (by decide) ?_
  refine nx_go 1 (pc' := 37) (lv' := [.ref 32, .int ((2 : Int32) + 1)]) (st' := []) hX ok_Wall_init rfl ?_
  rw [show ((2 : Int32) + 1) = 3 from by decide]
  refine nx_go 4 (pc' := if (8 : Int32) ≤ 3 then 40 else 21) (lv' := [.ref 32, .int (3 : Int32)]) (st' := []) hX ok_Wall_init rfl ?_
  refine nx_no (by decide) ?_
  refine nx_go 1 (pc' := 22) (lv' := [.ref 32, .int (3 : Int32)]) (st' := [.ref 32]) hX ok_Wall_init rfl ?_
  refine nx_getp (c := 8) (w := 0) (k := 0) (q := 33) hX ok_Wall_init rfl (Nat.le_of_ble_eq_true rfl) rfl (nx := 25) rfl rfl rfl ?_
  refine nx_go 1 (pc' := 26) (lv' := [.ref 32, .int (3 : Int32)]) (st' := [.int (3 : Int32), .ref 33]) hX ok_Wall_init rfl ?_
  refine nx_new (c := 0) (w := 0) (n' := 38) (c' := 5) (s' := 36) hX ok_Wall_init (nx := 29) rfl (by decide) l_Wall_9 rfl (Nat.le_of_ble_eq_true rfl) ⟨Nat.le_of_ble_eq_true rfl, Nat.le_of_ble_eq_true rfl⟩ ⟨rfl, rfl, rfl⟩ ?_
  refine nx_go 1 (pc' := 30) (lv' := [.ref 32, .int (3 : Int32)]) (st' := [.ref 37, .ref 37, .int (3 : Int32), .ref 33]) hX ok_Wall_init rfl ?_
  refine nx_I (as := []) (rest := [.ref 37, .int (3 : Int32), .ref 33]) (c' := 5) (s' := 36) hX ok_Wall_init (nx := 33) rfl l_Wall_17 rfl (Nat.le_of_ble_eq_true rfl) (n_Stroke_init (d := 1) (r := 37) (by omega) (Nat.le_of_ble_eq_true rfl) (Nat.le_of_ble_eq_true rfl) rfl) (by omega) rfl rfl (Nat.le_of_ble_eq_true rfl) ⟨Nat.le_of_ble_eq_true rfl, Nat.le_of_ble_eq_true rfl⟩ ⟨rfl, rfl⟩ ?_
  refine nx_aast (c := 15) (w := 8) (cq := 0) (wq := 0) (j := 3) hX ok_Wall_init (Nat.le_of_ble_eq_true rfl) rfl (Nat.le_of_ble_eq_true rfl) rfl (by decide) (Or.inl ⟨rfl, rfl⟩) rfl (nx := 34) rfl (by decide) (by decide) ?_
  refine nx_go 1 (pc' := 37) (lv' := [.ref 32, .int ((3 : Int32) + 1)]) (st' := []) hX ok_Wall_init rfl ?_
  rw [show ((3 : Int32) + 1) = 4 from by decide]
  refine nx_go 4 (pc' := if (8 : Int32) ≤ 4 then 40 else 21) (lv' := [.ref 32, .int (4 : Int32)]) (st' := []) hX ok_Wall_init rfl ?_
  refine nx_no (by decide) ?_
  refine nx_go 1 (pc' := 22) (lv' := [.ref 32, .int (4 : Int32)]) (st' := [.ref 32]) hX ok_Wall_init rfl ?_
  refine nx_getp (c := 8) (w := 0) (k := 0) (q := 33) hX ok_Wall_init rfl (Nat.le_of_ble_eq_true rfl) rfl (nx := 25) rfl rfl rfl ?_
  refine nx_go 1 (pc' := 26) (lv' := [.ref 32, .int (4 : Int32)]) (st' := [.int (4 : Int32), .ref 33]) hX ok_Wall_init rfl ?_
  refine nx_new (c := 0) (w := 0) (n' := 39) (c' := 6) (s' := 43) hX ok_Wall_init (nx := 29) rfl (by decide) l_Wall_9 rfl (Nat.le_of_ble_eq_true rfl) ⟨Nat.le_of_ble_eq_true rfl, Nat.le_of_ble_eq_true rfl⟩ ⟨rfl, rfl, rfl⟩ ?_
  refine nx_go 1 (pc' := 30) (lv' := [.ref 32, .int (4 : Int32)]) (st' := [.ref 38, .ref 38, .int (4 : Int32), .ref 33]) hX ok_Wall_init rfl ?_
  refine nx_I (as := []) (rest := [.ref 38, .int (4 : Int32), .ref 33]) (c' := 6) (s' := 43) hX ok_Wall_init (nx := 33) rfl l_Wall_17 rfl (Nat.le_of_ble_eq_true rfl) (n_Stroke_init (d := 1) (r := 38) (by omega) (Nat.le_of_ble_eq_true rfl) (Nat.le_of_ble_eq_true rfl) rfl) (by omega) rfl rfl (Nat.le_of_ble_eq_true rfl) ⟨Nat.le_of_ble_eq_true rfl, Nat.le_of_ble_eq_true rfl⟩ ⟨rfl, rfl⟩ ?_
  refine nx_aast (c := 15) (w := 8) (cq := 0) (wq := 0) (j := 4) hX ok_Wall_init (Nat.le_of_ble_eq_true rfl) rfl (Nat.le_of_ble_eq_true rfl) rfl (by decide) (Or.inl ⟨rfl, rfl⟩) rfl (nx := 34) rfl (by decide) (by decide) ?_
  refine nx_go 1 (pc' := 37) (lv' := [.ref 32, .int ((4 : Int32) + 1)]) (st' := []) hX ok_Wall_init rfl ?_
  rw [show ((4 : Int32) + 1) = 5 from by decide]
  refine nx_go 4 (pc' := if (8 : Int32) ≤ 5 then 40 else 21) (lv' := [.ref 32, .int (5 : Int32)]) (st' := []) hX ok_Wall_init rfl ?_
  refine nx_no (by decide) ?_
  refine nx_go 1 (pc' := 22) (lv' := [.ref 32, .int (5 : Int32)]) (st' := [.ref 32]) hX ok_Wall_init rfl ?_
  refine nx_getp (c := 8) (w := 0) (k := 0) (q := 33) hX ok_Wall_init rfl (Nat.le_of_ble_eq_true rfl) rfl (nx := 25) rfl rfl rfl ?_
  refine nx_go 1 (pc' := 26) (lv' := [.ref 32, .int (5 : Int32)]) (st' := [.int (5 : Int32), .ref 33]) hX ok_Wall_init rfl ?_
  refine nx_new (c := 0) (w := 0) (n' := 40) (c' := 7) (s' := 50) hX ok_Wall_init (nx := 29) rfl (by decide) l_Wall_9 rfl (Nat.le_of_ble_eq_true rfl) ⟨Nat.le_of_ble_eq_true rfl, Nat.le_of_ble_eq_true rfl⟩ ⟨rfl, rfl, rfl⟩ ?_
  refine nx_go 1 (pc' := 30) (lv' := [.ref 32, .int (5 : Int32)]) (st' := [.ref 39, .ref 39, .int (5 : Int32), .ref 33]) hX ok_Wall_init rfl ?_
  refine nx_I (as := []) (rest := [.ref 39, .int (5 : Int32), .ref 33]) (c' := 7) (s' := 50) hX ok_Wall_init (nx := 33) rfl l_Wall_17 rfl (Nat.le_of_ble_eq_true rfl) (n_Stroke_init (d := 1) (r := 39) (by omega) (Nat.le_of_ble_eq_true rfl) (Nat.le_of_ble_eq_true rfl) rfl) (by omega) rfl rfl (Nat.le_of_ble_eq_true rfl) ⟨Nat.le_of_ble_eq_true rfl, Nat.le_of_ble_eq_true rfl⟩ ⟨rfl, rfl⟩ ?_
  refine nx_aast (c := 15) (w := 8) (cq := 0) (wq := 0) (j := 5) hX ok_Wall_init (Nat.le_of_ble_eq_true rfl) rfl (Nat.le_of_ble_eq_true rfl) rfl (by decide) (Or.inl ⟨rfl, rfl⟩) rfl (nx := 34) rfl (by decide) (by decide) ?_
  refine nx_go 1 (pc' := 37) (lv' := [.ref 32, .int ((5 : Int32) + 1)]) (st' := []) hX ok_Wall_init rfl ?_
  rw [show ((5 : Int32) + 1) = 6 from by decide]
  refine nx_go 4 (pc' := if (8 : Int32) ≤ 6 then 40 else 21) (lv' := [.ref 32, .int (6 : Int32)]) (st' := []) hX ok_Wall_init rfl ?_
  refine nx_no (by decide) ?_
  refine nx_go 1 (pc' := 22) (lv' := [.ref 32, .int (6 : Int32)]) (st' := [.ref 32]) hX ok_Wall_init rfl ?_
  refine nx_getp (c := 8) (w := 0) (k := 0) (q := 33) hX ok_Wall_init rfl (Nat.le_of_ble_eq_true rfl) rfl (nx := 25) rfl rfl rfl ?_
  refine nx_go 1 (pc' := 26) (lv' := [.ref 32, .int (6 : Int32)]) (st' := [.int (6 : Int32), .ref 33]) hX ok_Wall_init rfl ?_
  refine nx_new (c := 0) (w := 0) (n' := 41) (c' := 8) (s' := 57) hX ok_Wall_init (nx := 29) rfl (by decide) l_Wall_9 rfl (Nat.le_of_ble_eq_true rfl) ⟨Nat.le_of_ble_eq_true rfl, Nat.le_of_ble_eq_true rfl⟩ ⟨rfl, rfl, rfl⟩ ?_
  refine nx_go 1 (pc' := 30) (lv' := [.ref 32, .int (6 : Int32)]) (st' := [.ref 40, .ref 40, .int (6 : Int32), .ref 33]) hX ok_Wall_init rfl ?_
  refine nx_I (as := []) (rest := [.ref 40, .int (6 : Int32), .ref 33]) (c' := 8) (s' := 57) hX ok_Wall_init (nx := 33) rfl l_Wall_17 rfl (Nat.le_of_ble_eq_true rfl) (n_Stroke_init (d := 1) (r := 40) (by omega) (Nat.le_of_ble_eq_true rfl) (Nat.le_of_ble_eq_true rfl) rfl) (by omega) rfl rfl (Nat.le_of_ble_eq_true rfl) ⟨Nat.le_of_ble_eq_true rfl, Nat.le_of_ble_eq_true rfl⟩ ⟨rfl, rfl⟩ ?_
  refine nx_aast (c := 15) (w := 8) (cq := 0) (wq := 0) (j := 6) hX ok_Wall_init (Nat.le_of_ble_eq_true rfl) rfl (Nat.le_of_ble_eq_true rfl) rfl (by decide) (Or.inl ⟨rfl, rfl⟩) rfl (nx := 34) rfl (by decide) (by decide) ?_
  refine nx_go 1 (pc' := 37) (lv' := [.ref 32, .int ((6 : Int32) + 1)]) (st' := []) hX ok_Wall_init rfl ?_
  rw [show ((6 : Int32) + 1) = 7 from by decide]
  refine nx_go 4 (pc' := if (8 : Int32) ≤ 7 then 40 else 21) (lv' := [.ref 32, .int (7 : Int32)]) (st' := []) hX ok_Wall_init rfl ?_
  refine nx_no (by decide) ?_
  refine nx_go 1 (pc' := 22) (lv' := [.ref 32, .int (7 : Int32)]) (st' := [.ref 32]) hX ok_Wall_init rfl ?_
  refine nx_getp (c := 8) (w := 0) (k := 0) (q := 33) hX ok_Wall_init rfl (Nat.le_of_ble_eq_true rfl) rfl (nx := 25) rfl rfl rfl ?_
  refine nx_go 1 (pc' := 26) (lv' := [.ref 32, .int (7 : Int32)]) (st' := [.int (7 : Int32), .ref 33]) hX ok_Wall_init rfl ?_
  refine nx_new (c := 0) (w := 0) (n' := 42) (c' := 9) (s' := 64) hX ok_Wall_init (nx := 29) rfl (by decide) l_Wall_9 rfl (Nat.le_of_ble_eq_true rfl) ⟨Nat.le_of_ble_eq_true rfl, Nat.le_of_ble_eq_true rfl⟩ ⟨rfl, rfl, rfl⟩ ?_
  refine nx_go 1 (pc' := 30) (lv' := [.ref 32, .int (7 : Int32)]) (st' := [.ref 41, .ref 41, .int (7 : Int32), .ref 33]) hX ok_Wall_init rfl ?_
  refine nx_I (as := []) (rest := [.ref 41, .int (7 : Int32), .ref 33]) (c' := 9) (s' := 64) hX ok_Wall_init (nx := 33) rfl l_Wall_17 rfl (Nat.le_of_ble_eq_true rfl) (n_Stroke_init (d := 1) (r := 41) (by omega) (Nat.le_of_ble_eq_true rfl) (Nat.le_of_ble_eq_true rfl) rfl) (by omega) rfl rfl (Nat.le_of_ble_eq_true rfl) ⟨Nat.le_of_ble_eq_true rfl, Nat.le_of_ble_eq_true rfl⟩ ⟨rfl, rfl⟩ ?_
  refine nx_aast (c := 15) (w := 8) (cq := 0) (wq := 0) (j := 7) hX ok_Wall_init (Nat.le_of_ble_eq_true rfl) rfl (Nat.le_of_ble_eq_true rfl) rfl (by decide) (Or.inl ⟨rfl, rfl⟩) rfl (nx := 34) rfl (by decide) (by decide) ?_
  refine nx_go 1 (pc' := 37) (lv' := [.ref 32, .int ((7 : Int32) + 1)]) (st' := []) hX ok_Wall_init rfl ?_
  rw [show ((7 : Int32) + 1) = 8 from by decide]
  refine nx_go 4 (pc' := if (8 : Int32) ≤ 8 then 40 else 21) (lv' := [.ref 32, .int (8 : Int32)]) (st' := []) hX ok_Wall_init rfl ?_
  refine nx_yes (by decide) ?_
  refine nx_go 2 (pc' := 43) (lv' := [.ref 32, .int (8 : Int32)]) (st' := [.int (12 : Int32), .ref 32]) hX ok_Wall_init rfl ?_
  refine nx_newa (c := 13) (w := 12) (n' := 43) (c' := 10) (s' := 76) hX ok_Wall_init (nx := 45) rfl (Or.inl ⟨rfl, rfl⟩) xw_aI (by decide) rfl (Nat.le_of_ble_eq_true rfl) ⟨Nat.le_of_ble_eq_true rfl, Nat.le_of_ble_eq_true rfl⟩ ⟨rfl, rfl, rfl⟩ ?_
  refine nx_putp (c := 8) (w := 0) (k := 2) hX ok_Wall_init rfl (Nat.le_of_ble_eq_true rfl) rfl (nx := 48) rfl (Or.inr ⟨rfl, rfl, rfl⟩) rfl ?_
  refine nx_go 2 (pc' := 51) (lv' := [.ref 32, .int (8 : Int32)]) (st' := [.int (12 : Int32), .ref 32]) hX ok_Wall_init rfl ?_
  refine nx_newa (c := 13) (w := 12) (n' := 44) (c' := 11) (s' := 88) hX ok_Wall_init (nx := 53) rfl (Or.inl ⟨rfl, rfl⟩) xw_aI (by decide) rfl (Nat.le_of_ble_eq_true rfl) ⟨Nat.le_of_ble_eq_true rfl, Nat.le_of_ble_eq_true rfl⟩ ⟨rfl, rfl, rfl⟩ ?_
  refine nx_putp (c := 8) (w := 0) (k := 3) hX ok_Wall_init rfl (Nat.le_of_ble_eq_true rfl) rfl (nx := 56) rfl (Or.inr ⟨rfl, rfl, rfl⟩) rfl ?_
  refine nx_go 2 (pc' := 59) (lv' := [.ref 32, .int (8 : Int32)]) (st' := [.int (12 : Int32), .ref 32]) hX ok_Wall_init rfl ?_
  refine nx_newa (c := 13) (w := 12) (n' := 45) (c' := 12) (s' := 100) hX ok_Wall_init (nx := 61) rfl (Or.inl ⟨rfl, rfl⟩) xw_aI (by decide) rfl (Nat.le_of_ble_eq_true rfl) ⟨Nat.le_of_ble_eq_true rfl, Nat.le_of_ble_eq_true rfl⟩ ⟨rfl, rfl, rfl⟩ ?_
  refine nx_putp (c := 8) (w := 0) (k := 4) hX ok_Wall_init rfl (Nat.le_of_ble_eq_true rfl) rfl (nx := 64) rfl (Or.inr ⟨rfl, rfl, rfl⟩) rfl ?_
  refine nx_go 2 (pc' := 67) (lv' := [.ref 32, .int (8 : Int32)]) (st' := [.int (50 : Int32), .ref 32]) hX ok_Wall_init rfl ?_
  refine nx_newa (c := 13) (w := 50) (n' := 46) (c' := 13) (s' := 150) hX ok_Wall_init (nx := 69) rfl (Or.inl ⟨rfl, rfl⟩) xw_aI (by decide) rfl (Nat.le_of_ble_eq_true rfl) ⟨Nat.le_of_ble_eq_true rfl, Nat.le_of_ble_eq_true rfl⟩ ⟨rfl, rfl, rfl⟩ ?_
  refine nx_putp (c := 8) (w := 0) (k := 6) hX ok_Wall_init rfl (Nat.le_of_ble_eq_true rfl) rfl (nx := 72) rfl (Or.inr ⟨rfl, rfl, rfl⟩) rfl ?_
  refine nx_go 2 (pc' := 74) (lv' := [.ref 32, .int (8 : Int32)]) (st' := [.int (2 : Int32), .ref 32]) hX ok_Wall_init rfl ?_
  refine nx_newq (c := 16) (w := 2) (n' := 47) (c' := 14) (s' := 152) hX ok_Wall_init (nx := 77) rfl (Or.inr ⟨rfl, rfl⟩) l_Wall_31.1 (by decide) rfl (Nat.le_of_ble_eq_true rfl) ⟨Nat.le_of_ble_eq_true rfl, Nat.le_of_ble_eq_true rfl⟩ ⟨rfl, rfl, rfl⟩ ?_
  refine nx_putp (c := 8) (w := 0) (k := 8) hX ok_Wall_init rfl (Nat.le_of_ble_eq_true rfl) rfl (nx := 80) rfl (Or.inr ⟨rfl, rfl, rfl⟩) rfl ?_
  refine nx_go 1 (pc' := 81) (lv' := [.ref 32, .int (8 : Int32)]) (st' := [.ref 32]) hX ok_Wall_init rfl ?_
  refine nx_getp (c := 8) (w := 0) (k := 8) (q := 46) hX ok_Wall_init rfl (Nat.le_of_ble_eq_true rfl) rfl (nx := 84) rfl rfl rfl ?_
  refine nx_go 1 (pc' := 85) (lv' := [.ref 32, .int (8 : Int32)]) (st' := [.int (0 : Int32), .ref 46]) hX ok_Wall_init rfl ?_
  refine nx_new (c := 7) (w := 0) (n' := 48) (c' := 15) (s' := 160) hX ok_Wall_init (nx := 88) rfl (by decide) l_Wall_31 rfl (Nat.le_of_ble_eq_true rfl) ⟨Nat.le_of_ble_eq_true rfl, Nat.le_of_ble_eq_true rfl⟩ ⟨rfl, rfl, rfl⟩ ?_
  refine nx_go 1 (pc' := 89) (lv' := [.ref 32, .int (8 : Int32)]) (st' := [.ref 47, .ref 47, .int (0 : Int32), .ref 46]) hX ok_Wall_init rfl ?_
  refine nx_I (as := []) (rest := [.ref 47, .int (0 : Int32), .ref 46]) (c' := 19) (s' := 310) hX ok_Wall_init (nx := 92) rfl l_Wall_37 rfl (Nat.le_of_ble_eq_true rfl) (n_Text_init_47 (d := 1) (by omega)) (by omega) rfl rfl (Nat.le_of_ble_eq_true rfl) ⟨Nat.le_of_ble_eq_true rfl, Nat.le_of_ble_eq_true rfl⟩ ⟨rfl, rfl⟩ ?_
  refine nx_aast (c := 16) (w := 2) (cq := 7) (wq := 0) (j := 0) hX ok_Wall_init (Nat.le_of_ble_eq_true rfl) rfl (Nat.le_of_ble_eq_true rfl) rfl (by decide) (Or.inr ⟨rfl, rfl⟩) rfl (nx := 93) rfl (by decide) (by decide) ?_
  refine nx_go 1 (pc' := 94) (lv' := [.ref 32, .int (8 : Int32)]) (st' := [.ref 32]) hX ok_Wall_init rfl ?_
  refine nx_getp (c := 8) (w := 0) (k := 8) (q := 46) hX ok_Wall_init rfl (Nat.le_of_ble_eq_true rfl) rfl (nx := 97) rfl rfl rfl ?_
  refine nx_go 1 (pc' := 98) (lv' := [.ref 32, .int (8 : Int32)]) (st' := [.int (1 : Int32), .ref 46]) hX ok_Wall_init rfl ?_
  refine nx_new (c := 7) (w := 0) (n' := 53) (c' := 20) (s' := 318) hX ok_Wall_init (nx := 101) rfl (by decide) l_Wall_31 rfl (Nat.le_of_ble_eq_true rfl) ⟨Nat.le_of_ble_eq_true rfl, Nat.le_of_ble_eq_true rfl⟩ ⟨rfl, rfl, rfl⟩ ?_
  refine nx_go 1 (pc' := 102) (lv' := [.ref 32, .int (8 : Int32)]) (st' := [.ref 52, .ref 52, .int (1 : Int32), .ref 46]) hX ok_Wall_init rfl ?_
  refine nx_I (as := []) (rest := [.ref 52, .int (1 : Int32), .ref 46]) (c' := 24) (s' := 468) hX ok_Wall_init (nx := 105) rfl l_Wall_37 rfl (Nat.le_of_ble_eq_true rfl) (n_Text_init_52 (d := 1) (by omega)) (by omega) rfl rfl (Nat.le_of_ble_eq_true rfl) ⟨Nat.le_of_ble_eq_true rfl, Nat.le_of_ble_eq_true rfl⟩ ⟨rfl, rfl⟩ ?_
  refine nx_aast (c := 16) (w := 2) (cq := 7) (wq := 0) (j := 1) hX ok_Wall_init (Nat.le_of_ble_eq_true rfl) rfl (Nat.le_of_ble_eq_true rfl) rfl (by decide) (Or.inr ⟨rfl, rfl⟩) rfl (nx := 106) rfl (by decide) (by decide) ?_
  refine nx_go 1 (pc' := 107) (lv' := [.ref 32, .int (8 : Int32)]) (st' := [.ref 32]) hX ok_Wall_init rfl ?_
  refine nx_new (c := 7) (w := 0) (n' := 58) (c' := 25) (s' := 476) hX ok_Wall_init (nx := 110) rfl (by decide) l_Wall_31 rfl (Nat.le_of_ble_eq_true rfl) ⟨Nat.le_of_ble_eq_true rfl, Nat.le_of_ble_eq_true rfl⟩ ⟨rfl, rfl, rfl⟩ ?_
  refine nx_go 1 (pc' := 111) (lv' := [.ref 32, .int (8 : Int32)]) (st' := [.ref 57, .ref 57, .ref 32]) hX ok_Wall_init rfl ?_
  refine nx_I (as := []) (rest := [.ref 57, .ref 32]) (c' := 29) (s' := 626) hX ok_Wall_init (nx := 114) rfl l_Wall_37 rfl (Nat.le_of_ble_eq_true rfl) (n_Text_init_57 (d := 1) (by omega)) (by omega) rfl rfl (Nat.le_of_ble_eq_true rfl) ⟨Nat.le_of_ble_eq_true rfl, Nat.le_of_ble_eq_true rfl⟩ ⟨rfl, rfl⟩ ?_
  refine nx_putp (c := 8) (w := 0) (k := 9) hX ok_Wall_init rfl (Nat.le_of_ble_eq_true rfl) rfl (nx := 117) rfl (Or.inr ⟨rfl, rfl, rfl⟩) rfl ?_
  refine nx_go 2 (pc' := 120) (lv' := [.ref 32, .int (8 : Int32)]) (st' := [.int (20 : Int32), .ref 32]) hX ok_Wall_init rfl ?_
  refine nx_newa (c := 13) (w := 20) (n' := 63) (c' := 30) (s' := 646) hX ok_Wall_init (nx := 122) rfl (Or.inl ⟨rfl, rfl⟩) xw_aI (by decide) rfl (Nat.le_of_ble_eq_true rfl) ⟨Nat.le_of_ble_eq_true rfl, Nat.le_of_ble_eq_true rfl⟩ ⟨rfl, rfl, rfl⟩ ?_
  refine nx_putp (c := 8) (w := 0) (k := 10) hX ok_Wall_init rfl (Nat.le_of_ble_eq_true rfl) rfl (nx := 125) rfl (Or.inr ⟨rfl, rfl, rfl⟩) rfl ?_
  refine nx_go 2 (pc' := 127) (lv' := [.ref 32, .int (8 : Int32)]) (st' := [.int (1 : Int32), .ref 32]) hX ok_Wall_init rfl ?_
  refine nx_puti (c := 8) (w := 0) (k := 12) hX ok_Wall_init rfl (Nat.le_of_ble_eq_true rfl) (Nat.le_of_ble_eq_true rfl) rfl (nx := 130) rfl rfl rfl ?_
  exact nx_vret hX hE ok_Wall_init (nx := 131) rfl rfl ⟨Nat.le_of_ble_eq_true rfl, Nat.le_of_ble_eq_true rfl⟩
def z_Sets_init_63 (Z : HI) : HI := (xrow (xrow (xrow (xrow (xrow (xrow (xrow (xrow Z 64 z0) 65 z0) 66 z0) 67 z0) 68 z0) 69 z0) 70 z0) 71 z0)
def p_Sets_init_63 (P : Nat → Nat → Option Nat) : Nat → Nat → Option Nat := (xup (xprow (xup (xprow (xup (xprow (xup (xprow (xup (xprow (xup (xprow (xup (xprow (xup (xprow P 64 o0) 63 0 (some 64)) 65 o0) 63 1 (some 65)) 66 o0) 63 2 (some 66)) 67 o0) 63 3 (some 67)) 68 o0) 63 4 (some 68)) 69 o0) 63 5 (some 69)) 70 o0) 63 6 (some 70)) 71 o0) 63 7 (some 71))
set_option maxRecDepth 20000 in
set_option maxHeartbeats 4000000 in
theorem n_Sets_init_63 {G : xG} {d L : Nat} {O : HI} {Z : HI} {P : Nat → Nat → Option Nat} (hd : 1 ≤ d) : nM G d m_Sets_init [.ref 63] L O 64 Z P 8 860 72 (z_Sets_init_63 Z) (p_Sets_init_63 P) := by
  refine nM.of (by decide +kernel) (Nat.le_of_ble_eq_true rfl) (lv := [.ref 63]) rfl (fun X hX hE => ?_)
  refine nx_go 1 (pc' := 1) (lv' := [.ref 63]) (st' := [.ref 63]) hX ok_Sets_init rfl ?_
  refine nx_obj hX ok_Sets_init (nx := 4) rfl l_Sets_3 (by omega) (Nat.le_of_ble_eq_true rfl) ?_
  refine nx_go 2 (pc' := 7) (lv' := [.ref 63]) (st' := [.int (8 : Int32), .ref 63]) hX ok_Sets_init rfl ?_
  refine nx_newa (c := 13) (w := 8) (n' := 65) (c' := 1) (s' := 8) hX ok_Sets_init (nx := 9) rfl (Or.inl ⟨rfl, rfl⟩) xw_aI (by decide) rfl (Nat.le_of_ble_eq_true rfl) ⟨Nat.le_of_ble_eq_true rfl, Nat.le_of_ble_eq_true rfl⟩ ⟨rfl, rfl, rfl⟩ ?_
  refine nx_putp (c := 9) (w := 0) (k := 0) hX ok_Sets_init rfl (Nat.le_of_ble_eq_true rfl) rfl (nx := 12) rfl (Or.inr ⟨rfl, rfl, rfl⟩) rfl ?_
  refine nx_go 2 (pc' := 15) (lv' := [.ref 63]) (st' := [.int (8 : Int32), .ref 63]) hX ok_Sets_init rfl ?_
  refine nx_newa (c := 13) (w := 8) (n' := 66) (c' := 2) (s' := 16) hX ok_Sets_init (nx := 17) rfl (Or.inl ⟨rfl, rfl⟩) xw_aI (by decide) rfl (Nat.le_of_ble_eq_true rfl) ⟨Nat.le_of_ble_eq_true rfl, Nat.le_of_ble_eq_true rfl⟩ ⟨rfl, rfl, rfl⟩ ?_
  refine nx_putp (c := 9) (w := 0) (k := 1) hX ok_Sets_init rfl (Nat.le_of_ble_eq_true rfl) rfl (nx := 20) rfl (Or.inr ⟨rfl, rfl, rfl⟩) rfl ?_
  refine nx_go 2 (pc' := 23) (lv' := [.ref 63]) (st' := [.int (8 : Int32), .ref 63]) hX ok_Sets_init rfl ?_
  refine nx_newa (c := 13) (w := 8) (n' := 67) (c' := 3) (s' := 24) hX ok_Sets_init (nx := 25) rfl (Or.inl ⟨rfl, rfl⟩) xw_aI (by decide) rfl (Nat.le_of_ble_eq_true rfl) ⟨Nat.le_of_ble_eq_true rfl, Nat.le_of_ble_eq_true rfl⟩ ⟨rfl, rfl, rfl⟩ ?_
  refine nx_putp (c := 9) (w := 0) (k := 2) hX ok_Sets_init rfl (Nat.le_of_ble_eq_true rfl) rfl (nx := 28) rfl (Or.inr ⟨rfl, rfl, rfl⟩) rfl ?_
  refine nx_go 2 (pc' := 31) (lv' := [.ref 63]) (st' := [.int (64 : Int32), .ref 63]) hX ok_Sets_init rfl ?_
  refine nx_newa (c := 13) (w := 64) (n' := 68) (c' := 4) (s' := 88) hX ok_Sets_init (nx := 33) rfl (Or.inl ⟨rfl, rfl⟩) xw_aI (by decide) rfl (Nat.le_of_ble_eq_true rfl) ⟨Nat.le_of_ble_eq_true rfl, Nat.le_of_ble_eq_true rfl⟩ ⟨rfl, rfl, rfl⟩ ?_
  refine nx_putp (c := 9) (w := 0) (k := 3) hX ok_Sets_init rfl (Nat.le_of_ble_eq_true rfl) rfl (nx := 36) rfl (Or.inr ⟨rfl, rfl, rfl⟩) rfl ?_
  refine nx_go 2 (pc' := 38) (lv' := [.ref 63]) (st' := [.int (4 : Int32), .ref 63]) hX ok_Sets_init rfl ?_
  refine nx_newa (c := 13) (w := 4) (n' := 69) (c' := 5) (s' := 92) hX ok_Sets_init (nx := 40) rfl (Or.inl ⟨rfl, rfl⟩) xw_aI (by decide) rfl (Nat.le_of_ble_eq_true rfl) ⟨Nat.le_of_ble_eq_true rfl, Nat.le_of_ble_eq_true rfl⟩ ⟨rfl, rfl, rfl⟩ ?_
  refine nx_putp (c := 9) (w := 0) (k := 4) hX ok_Sets_init rfl (Nat.le_of_ble_eq_true rfl) rfl (nx := 43) rfl (Or.inr ⟨rfl, rfl, rfl⟩) rfl ?_
  refine nx_go 2 (pc' := 47) (lv' := [.ref 63]) (st' := [.int (256 : Int32), .ref 63]) hX ok_Sets_init rfl ?_
  refine nx_newa (c := 13) (w := 256) (n' := 70) (c' := 6) (s' := 348) hX ok_Sets_init (nx := 49) rfl (Or.inl ⟨rfl, rfl⟩) xw_aI (by decide) rfl (Nat.le_of_ble_eq_true rfl) ⟨Nat.le_of_ble_eq_true rfl, Nat.le_of_ble_eq_true rfl⟩ ⟨rfl, rfl, rfl⟩ ?_
  refine nx_putp (c := 9) (w := 0) (k := 5) hX ok_Sets_init rfl (Nat.le_of_ble_eq_true rfl) rfl (nx := 52) rfl (Or.inr ⟨rfl, rfl, rfl⟩) rfl ?_
  refine nx_go 2 (pc' := 56) (lv' := [.ref 63]) (st' := [.int (256 : Int32), .ref 63]) hX ok_Sets_init rfl ?_
  refine nx_newa (c := 13) (w := 256) (n' := 71) (c' := 7) (s' := 604) hX ok_Sets_init (nx := 58) rfl (Or.inl ⟨rfl, rfl⟩) xw_aI (by decide) rfl (Nat.le_of_ble_eq_true rfl) ⟨Nat.le_of_ble_eq_true rfl, Nat.le_of_ble_eq_true rfl⟩ ⟨rfl, rfl, rfl⟩ ?_
  refine nx_putp (c := 9) (w := 0) (k := 6) hX ok_Sets_init rfl (Nat.le_of_ble_eq_true rfl) rfl (nx := 61) rfl (Or.inr ⟨rfl, rfl, rfl⟩) rfl ?_
  refine nx_go 2 (pc' := 65) (lv' := [.ref 63]) (st' := [.int (256 : Int32), .ref 63]) hX ok_Sets_init rfl ?_
  refine nx_newa (c := 14) (w := 256) (n' := 72) (c' := 8) (s' := 860) hX ok_Sets_init (nx := 67) rfl (Or.inr ⟨rfl, rfl⟩) xw_aZ (by decide) rfl (Nat.le_of_ble_eq_true rfl) ⟨Nat.le_of_ble_eq_true rfl, Nat.le_of_ble_eq_true rfl⟩ ⟨rfl, rfl, rfl⟩ ?_
  refine nx_putp (c := 9) (w := 0) (k := 7) hX ok_Sets_init rfl (Nat.le_of_ble_eq_true rfl) rfl (nx := 70) rfl (Or.inr ⟨rfl, rfl, rfl⟩) rfl ?_
  exact nx_vret hX hE ok_Sets_init (nx := 71) rfl rfl ⟨Nat.le_of_ble_eq_true rfl, Nat.le_of_ble_eq_true rfl⟩
def z_Spans_init_72 (Z : HI) : HI := (xrow (xrow (xrow (xrow (xrow (xrow Z 73 z0) 74 z0) 75 z0) 76 z0) 77 z0) 78 z0)
def p_Spans_init_72 (P : Nat → Nat → Option Nat) : Nat → Nat → Option Nat := (xup (xprow (xup (xprow (xup (xprow (xup (xprow (xup (xprow (xup (xprow P 73 o0) 72 0 (some 73)) 74 o0) 72 1 (some 74)) 75 o0) 72 4 (some 75)) 76 o0) 72 5 (some 76)) 77 o0) 72 6 (some 77)) 78 o0) 72 7 (some 78))
set_option maxRecDepth 20000 in
set_option maxHeartbeats 4000000 in
theorem n_Spans_init_72 {G : xG} {d L : Nat} {O : HI} {Z : HI} {P : Nat → Nat → Option Nat} (hd : 1 ≤ d) : nM G d m_Spans_init [.ref 72] L O 73 Z P 6 48 79 (z_Spans_init_72 Z) (p_Spans_init_72 P) := by
  refine nM.of (by decide +kernel) (Nat.le_of_ble_eq_true rfl) (lv := [.ref 72]) rfl (fun X hX hE => ?_)
  refine nx_go 1 (pc' := 1) (lv' := [.ref 72]) (st' := [.ref 72]) hX ok_Spans_init rfl ?_
  refine nx_obj hX ok_Spans_init (nx := 4) rfl l_Spans_3 (by omega) (Nat.le_of_ble_eq_true rfl) ?_
  refine nx_go 2 (pc' := 7) (lv' := [.ref 72]) (st' := [.int (8 : Int32), .ref 72]) hX ok_Spans_init rfl ?_
  refine nx_newa (c := 13) (w := 8) (n' := 74) (c' := 1) (s' := 8) hX ok_Spans_init (nx := 9) rfl (Or.inl ⟨rfl, rfl⟩) xw_aI (by decide) rfl (Nat.le_of_ble_eq_true rfl) ⟨Nat.le_of_ble_eq_true rfl, Nat.le_of_ble_eq_true rfl⟩ ⟨rfl, rfl, rfl⟩ ?_
  refine nx_putp (c := 10) (w := 0) (k := 0) hX ok_Spans_init rfl (Nat.le_of_ble_eq_true rfl) rfl (nx := 12) rfl (Or.inr ⟨rfl, rfl, rfl⟩) rfl ?_
  refine nx_go 2 (pc' := 15) (lv' := [.ref 72]) (st' := [.int (8 : Int32), .ref 72]) hX ok_Spans_init rfl ?_
  refine nx_newa (c := 13) (w := 8) (n' := 75) (c' := 2) (s' := 16) hX ok_Spans_init (nx := 17) rfl (Or.inl ⟨rfl, rfl⟩) xw_aI (by decide) rfl (Nat.le_of_ble_eq_true rfl) ⟨Nat.le_of_ble_eq_true rfl, Nat.le_of_ble_eq_true rfl⟩ ⟨rfl, rfl, rfl⟩ ?_
  refine nx_putp (c := 10) (w := 0) (k := 1) hX ok_Spans_init rfl (Nat.le_of_ble_eq_true rfl) rfl (nx := 20) rfl (Or.inr ⟨rfl, rfl, rfl⟩) rfl ?_
  refine nx_go 2 (pc' := 23) (lv' := [.ref 72]) (st' := [.int (8 : Int32), .ref 72]) hX ok_Spans_init rfl ?_
  refine nx_newa (c := 13) (w := 8) (n' := 76) (c' := 3) (s' := 24) hX ok_Spans_init (nx := 25) rfl (Or.inl ⟨rfl, rfl⟩) xw_aI (by decide) rfl (Nat.le_of_ble_eq_true rfl) ⟨Nat.le_of_ble_eq_true rfl, Nat.le_of_ble_eq_true rfl⟩ ⟨rfl, rfl, rfl⟩ ?_
  refine nx_putp (c := 10) (w := 0) (k := 4) hX ok_Spans_init rfl (Nat.le_of_ble_eq_true rfl) rfl (nx := 28) rfl (Or.inr ⟨rfl, rfl, rfl⟩) rfl ?_
  refine nx_go 2 (pc' := 31) (lv' := [.ref 72]) (st' := [.int (8 : Int32), .ref 72]) hX ok_Spans_init rfl ?_
  refine nx_newa (c := 13) (w := 8) (n' := 77) (c' := 4) (s' := 32) hX ok_Spans_init (nx := 33) rfl (Or.inl ⟨rfl, rfl⟩) xw_aI (by decide) rfl (Nat.le_of_ble_eq_true rfl) ⟨Nat.le_of_ble_eq_true rfl, Nat.le_of_ble_eq_true rfl⟩ ⟨rfl, rfl, rfl⟩ ?_
  refine nx_putp (c := 10) (w := 0) (k := 5) hX ok_Spans_init rfl (Nat.le_of_ble_eq_true rfl) rfl (nx := 36) rfl (Or.inr ⟨rfl, rfl, rfl⟩) rfl ?_
  refine nx_go 2 (pc' := 39) (lv' := [.ref 72]) (st' := [.int (8 : Int32), .ref 72]) hX ok_Spans_init rfl ?_
  refine nx_newa (c := 13) (w := 8) (n' := 78) (c' := 5) (s' := 40) hX ok_Spans_init (nx := 41) rfl (Or.inl ⟨rfl, rfl⟩) xw_aI (by decide) rfl (Nat.le_of_ble_eq_true rfl) ⟨Nat.le_of_ble_eq_true rfl, Nat.le_of_ble_eq_true rfl⟩ ⟨rfl, rfl, rfl⟩ ?_
  refine nx_putp (c := 10) (w := 0) (k := 6) hX ok_Spans_init rfl (Nat.le_of_ble_eq_true rfl) rfl (nx := 44) rfl (Or.inr ⟨rfl, rfl, rfl⟩) rfl ?_
  refine nx_go 2 (pc' := 47) (lv' := [.ref 72]) (st' := [.int (8 : Int32), .ref 72]) hX ok_Spans_init rfl ?_
  refine nx_newa (c := 13) (w := 8) (n' := 79) (c' := 6) (s' := 48) hX ok_Spans_init (nx := 49) rfl (Or.inl ⟨rfl, rfl⟩) xw_aI (by decide) rfl (Nat.le_of_ble_eq_true rfl) ⟨Nat.le_of_ble_eq_true rfl, Nat.le_of_ble_eq_true rfl⟩ ⟨rfl, rfl, rfl⟩ ?_
  refine nx_putp (c := 10) (w := 0) (k := 7) hX ok_Spans_init rfl (Nat.le_of_ble_eq_true rfl) rfl (nx := 52) rfl (Or.inr ⟨rfl, rfl, rfl⟩) rfl ?_
  exact nx_vret hX hE ok_Spans_init (nx := 53) rfl rfl ⟨Nat.le_of_ble_eq_true rfl, Nat.le_of_ble_eq_true rfl⟩
def z_H_init_0 (Z : HI) : HI := (xu (xrow (xrow (xrow (xrow (mZ 79 (z_Spans_init_72 (xrow (z_Sets_init_63 (xrow (z_Wall_init_32 (xrow (z_Wall_init_1 (xrow Z 1 z0)) 32 z0)) 63 z0)) 72 z0))) 84 z0) 85 z0) 86 z0) 87 z0) 0 9 0)
def p_H_init_0 (P : Nat → Nat → Option Nat) : Nat → Nat → Option Nat := (xup (xprow (xup (xprow (xup (xprow (xup (xprow (xup (mP 79 (xup (p_Spans_init_72 (xprow (xup (p_Sets_init_63 (xprow (xup (p_Wall_init_32 (xprow (xup (p_Wall_init_1 (xprow P 1 o0)) 0 0 (some 1)) 32 o0)) 0 1 (some 32)) 63 o0)) 0 2 (some 63)) 72 o0)) 0 3 (some 72))) 0 4 (some 79)) 84 o0) 0 5 (some 84)) 85 o0) 0 6 (some 85)) 86 o0) 0 7 (some 86)) 87 o0) 0 8 (some 87))
set_option maxRecDepth 20000 in
set_option maxHeartbeats 4000000 in
theorem n_H_init_0 {G : xG} {d L : Nat} {O : HI} {Z : HI} {P : Nat → Nat → Option Nat} (hd : 3 ≤ d) : nM G d m_H_init [.ref 0] L O 1 Z P 87 2461 88 (z_H_init_0 Z) (p_H_init_0 P) := by
  refine nM.of (by decide +kernel) (Nat.le_of_ble_eq_true rfl) (lv := [.ref 0]) rfl (fun X hX hE => ?_)
  refine nx_go 1 (pc' := 1) (lv' := [.ref 0]) (st' := [.ref 0]) hX ok_H_init rfl ?_
  refine nx_obj hX ok_H_init (nx := 4) rfl l_H_1 (by omega) (Nat.le_of_ble_eq_true rfl) ?_
  refine nx_go 1 (pc' := 5) (lv' := [.ref 0]) (st' := [.ref 0]) hX ok_H_init rfl ?_
  refine nx_new (c := 8) (w := 0) (n' := 2) (c' := 1) (s' := 13) hX ok_H_init (nx := 8) rfl (by decide) l_H_7 rfl (Nat.le_of_ble_eq_true rfl) ⟨Nat.le_of_ble_eq_true rfl, Nat.le_of_ble_eq_true rfl⟩ ⟨rfl, rfl, rfl⟩ ?_
  refine nx_go 1 (pc' := 9) (lv' := [.ref 0]) (st' := [.ref 1, .ref 1, .ref 0]) hX ok_H_init rfl ?_
  refine nx_I (as := []) (rest := [.ref 1, .ref 0]) (c' := 31) (s' := 659) hX ok_H_init (nx := 12) rfl l_H_9 rfl (Nat.le_of_ble_eq_true rfl) (n_Wall_init_1 (d := 2) (by omega)) (by omega) rfl rfl (Nat.le_of_ble_eq_true rfl) ⟨Nat.le_of_ble_eq_true rfl, Nat.le_of_ble_eq_true rfl⟩ ⟨rfl, rfl⟩ ?_
  refine nx_putp (c := 11) (w := 0) (k := 0) hX ok_H_init rfl (Nat.le_of_ble_eq_true rfl) rfl (nx := 15) rfl (Or.inr ⟨rfl, rfl, rfl⟩) rfl ?_
  refine nx_go 1 (pc' := 16) (lv' := [.ref 0]) (st' := [.ref 0]) hX ok_H_init rfl ?_
  refine nx_new (c := 8) (w := 0) (n' := 33) (c' := 32) (s' := 672) hX ok_H_init (nx := 19) rfl (by decide) l_H_7 rfl (Nat.le_of_ble_eq_true rfl) ⟨Nat.le_of_ble_eq_true rfl, Nat.le_of_ble_eq_true rfl⟩ ⟨rfl, rfl, rfl⟩ ?_
  refine nx_go 1 (pc' := 20) (lv' := [.ref 0]) (st' := [.ref 32, .ref 32, .ref 0]) hX ok_H_init rfl ?_
  refine nx_I (as := []) (rest := [.ref 32, .ref 0]) (c' := 62) (s' := 1318) hX ok_H_init (nx := 23) rfl l_H_9 rfl (Nat.le_of_ble_eq_true rfl) (n_Wall_init_32 (d := 2) (by omega)) (by omega) rfl rfl (Nat.le_of_ble_eq_true rfl) ⟨Nat.le_of_ble_eq_true rfl, Nat.le_of_ble_eq_true rfl⟩ ⟨rfl, rfl⟩ ?_
  refine nx_putp (c := 11) (w := 0) (k := 1) hX ok_H_init rfl (Nat.le_of_ble_eq_true rfl) rfl (nx := 26) rfl (Or.inr ⟨rfl, rfl, rfl⟩) rfl ?_
  refine nx_go 1 (pc' := 27) (lv' := [.ref 0]) (st' := [.ref 0]) hX ok_H_init rfl ?_
  refine nx_new (c := 9) (w := 0) (n' := 64) (c' := 63) (s' := 1326) hX ok_H_init (nx := 30) rfl (by decide) l_H_19 rfl (Nat.le_of_ble_eq_true rfl) ⟨Nat.le_of_ble_eq_true rfl, Nat.le_of_ble_eq_true rfl⟩ ⟨rfl, rfl, rfl⟩ ?_
  refine nx_go 1 (pc' := 31) (lv' := [.ref 0]) (st' := [.ref 63, .ref 63, .ref 0]) hX ok_H_init rfl ?_
  refine nx_I (as := []) (rest := [.ref 63, .ref 0]) (c' := 71) (s' := 2186) hX ok_H_init (nx := 34) rfl l_H_21 rfl (Nat.le_of_ble_eq_true rfl) (n_Sets_init_63 (d := 1) (by omega)) (by omega) rfl rfl (Nat.le_of_ble_eq_true rfl) ⟨Nat.le_of_ble_eq_true rfl, Nat.le_of_ble_eq_true rfl⟩ ⟨rfl, rfl⟩ ?_
  refine nx_putp (c := 11) (w := 0) (k := 2) hX ok_H_init rfl (Nat.le_of_ble_eq_true rfl) rfl (nx := 37) rfl (Or.inr ⟨rfl, rfl, rfl⟩) rfl ?_
  refine nx_go 1 (pc' := 38) (lv' := [.ref 0]) (st' := [.ref 0]) hX ok_H_init rfl ?_
  refine nx_new (c := 10) (w := 0) (n' := 73) (c' := 72) (s' := 2194) hX ok_H_init (nx := 41) rfl (by decide) l_H_26 rfl (Nat.le_of_ble_eq_true rfl) ⟨Nat.le_of_ble_eq_true rfl, Nat.le_of_ble_eq_true rfl⟩ ⟨rfl, rfl, rfl⟩ ?_
  refine nx_go 1 (pc' := 42) (lv' := [.ref 0]) (st' := [.ref 72, .ref 72, .ref 0]) hX ok_H_init rfl ?_
  refine nx_I (as := []) (rest := [.ref 72, .ref 0]) (c' := 78) (s' := 2242) hX ok_H_init (nx := 45) rfl l_H_28 rfl (Nat.le_of_ble_eq_true rfl) (n_Spans_init_72 (d := 1) (by omega)) (by omega) rfl rfl (Nat.le_of_ble_eq_true rfl) ⟨Nat.le_of_ble_eq_true rfl, Nat.le_of_ble_eq_true rfl⟩ ⟨rfl, rfl⟩ ?_
  refine nx_putp (c := 11) (w := 0) (k := 3) hX ok_H_init rfl (Nat.le_of_ble_eq_true rfl) rfl (nx := 48) rfl (Or.inr ⟨rfl, rfl, rfl⟩) rfl ?_
  refine nx_go 3 (pc' := 52) (lv' := [.ref 0]) (st' := [.int (40 : Int32), .int (4 : Int32), .ref 0]) hX ok_H_init rfl ?_
  refine nx_multi (n' := 84) (c' := 83) (s' := 2406) hX ok_H_init rfl (nx := 56) rfl ⟨rfl, mg_k⟩ (Nat.le_of_ble_eq_true rfl) ⟨Nat.le_of_ble_eq_true rfl, Nat.le_of_ble_eq_true rfl⟩ ⟨rfl, rfl, rfl⟩ ?_
  refine nx_putp (c := 11) (w := 0) (k := 4) hX ok_H_init rfl (Nat.le_of_ble_eq_true rfl) rfl (nx := 59) rfl (Or.inr ⟨rfl, rfl, rfl⟩) rfl ?_
  refine nx_go 2 (pc' := 61) (lv' := [.ref 0]) (st' := [.int (4 : Int32), .ref 0]) hX ok_H_init rfl ?_
  refine nx_newa (c := 13) (w := 4) (n' := 85) (c' := 84) (s' := 2410) hX ok_H_init (nx := 63) rfl (Or.inl ⟨rfl, rfl⟩) xw_aI (by decide) rfl (Nat.le_of_ble_eq_true rfl) ⟨Nat.le_of_ble_eq_true rfl, Nat.le_of_ble_eq_true rfl⟩ ⟨rfl, rfl, rfl⟩ ?_
  refine nx_putp (c := 11) (w := 0) (k := 5) hX ok_H_init rfl (Nat.le_of_ble_eq_true rfl) rfl (nx := 66) rfl (Or.inr ⟨rfl, rfl, rfl⟩) rfl ?_
  refine nx_go 2 (pc' := 68) (lv' := [.ref 0]) (st' := [.int (4 : Int32), .ref 0]) hX ok_H_init rfl ?_
  refine nx_newa (c := 13) (w := 4) (n' := 86) (c' := 85) (s' := 2414) hX ok_H_init (nx := 70) rfl (Or.inl ⟨rfl, rfl⟩) xw_aI (by decide) rfl (Nat.le_of_ble_eq_true rfl) ⟨Nat.le_of_ble_eq_true rfl, Nat.le_of_ble_eq_true rfl⟩ ⟨rfl, rfl, rfl⟩ ?_
  refine nx_putp (c := 11) (w := 0) (k := 6) hX ok_H_init rfl (Nat.le_of_ble_eq_true rfl) rfl (nx := 73) rfl (Or.inr ⟨rfl, rfl, rfl⟩) rfl ?_
  refine nx_go 2 (pc' := 76) (lv' := [.ref 0]) (st' := [.int (41 : Int32), .ref 0]) hX ok_H_init rfl ?_
  refine nx_newa (c := 13) (w := 41) (n' := 87) (c' := 86) (s' := 2455) hX ok_H_init (nx := 78) rfl (Or.inl ⟨rfl, rfl⟩) xw_aI (by decide) rfl (Nat.le_of_ble_eq_true rfl) ⟨Nat.le_of_ble_eq_true rfl, Nat.le_of_ble_eq_true rfl⟩ ⟨rfl, rfl, rfl⟩ ?_
  refine nx_putp (c := 11) (w := 0) (k := 7) hX ok_H_init rfl (Nat.le_of_ble_eq_true rfl) rfl (nx := 81) rfl (Or.inr ⟨rfl, rfl, rfl⟩) rfl ?_
  refine nx_go 2 (pc' := 84) (lv' := [.ref 0]) (st' := [.int (6 : Int32), .ref 0]) hX ok_H_init rfl ?_
  refine nx_newa (c := 13) (w := 6) (n' := 88) (c' := 87) (s' := 2461) hX ok_H_init (nx := 86) rfl (Or.inl ⟨rfl, rfl⟩) xw_aI (by decide) rfl (Nat.le_of_ble_eq_true rfl) ⟨Nat.le_of_ble_eq_true rfl, Nat.le_of_ble_eq_true rfl⟩ ⟨rfl, rfl, rfl⟩ ?_
  refine nx_putp (c := 11) (w := 0) (k := 8) hX ok_H_init rfl (Nat.le_of_ble_eq_true rfl) rfl (nx := 89) rfl (Or.inr ⟨rfl, rfl, rfl⟩) rfl ?_
  refine nx_go 2 (pc' := 91) (lv' := [.ref 0]) (st' := [.int (0 : Int32), .ref 0]) hX ok_H_init rfl ?_
  refine nx_puti (c := 11) (w := 0) (k := 9) hX ok_H_init rfl (Nat.le_of_ble_eq_true rfl) (Nat.le_of_ble_eq_true rfl) rfl (nx := 94) rfl rfl rfl ?_
  exact nx_vret hX hE ok_H_init (nx := 95) rfl rfl ⟨Nat.le_of_ble_eq_true rfl, Nat.le_of_ble_eq_true rfl⟩
def z_Model_init_88 (Z : HI) : HI := (xu (xrow (xrow (xrow (xrow (xrow (xrow (xrow (xrow (xrow (xrow (xrow (xrow (xrow (xrow (xrow (xrow (xrow (xrow Z 89 z0) 90 z0) 91 z0) 92 z0) 93 z0) 94 z0) 95 z0) 96 z0) 97 z0) 98 z0) 99 z0) 100 z0) 101 z0) 102 z0) 103 z0) 104 z0) 105 z0) 106 z0) 89 2 1)
def p_Model_init_88 (P : Nat → Nat → Option Nat) : Nat → Nat → Option Nat := (xup (xprow (xup (xprow (xup (xprow (xup (xprow (xup (xprow (xup (xprow (xup (xprow (xup (xprow (xup (xprow (xup (xprow (xup (xprow (xup (xprow (xup (xprow (xup (xprow (xup (xprow (xup (xprow (xup (xprow (xup (xprow P 89 o0) 88 0 (some 89)) 90 o0) 88 1 (some 90)) 91 o0) 88 3 (some 91)) 92 o0) 88 10 (some 92)) 93 o0) 88 11 (some 93)) 94 o0) 88 12 (some 94)) 95 o0) 88 13 (some 95)) 96 o0) 88 14 (some 96)) 97 o0) 88 15 (some 97)) 98 o0) 88 16 (some 98)) 99 o0) 88 17 (some 99)) 100 o0) 88 18 (some 100)) 101 o0) 88 19 (some 101)) 102 o0) 88 20 (some 102)) 103 o0) 88 23 (some 103)) 104 o0) 88 24 (some 104)) 105 o0) 88 25 (some 105)) 106 o0) 88 26 (some 106))
set_option maxRecDepth 20000 in
set_option maxHeartbeats 4000000 in
theorem n_Model_init_88 {G : xG} {d L : Nat} {O : HI} {Z : HI} {P : Nat → Nat → Option Nat} (hd : 1 ≤ d) : nM G d m_Model_init [.ref 88] L O 89 Z P 18 2110 107 (z_Model_init_88 Z) (p_Model_init_88 P) := by
  refine nM.of (by decide +kernel) (Nat.le_of_ble_eq_true rfl) (lv := [.ref 88]) rfl (fun X hX hE => ?_)
  refine nx_go 1 (pc' := 1) (lv' := [.ref 88]) (st' := [.ref 88]) hX ok_Model_init rfl ?_
  refine nx_obj hX ok_Model_init (nx := 4) rfl l_Model_1 (by omega) (Nat.le_of_ble_eq_true rfl) ?_
  refine nx_go 2 (pc' := 8) (lv' := [.ref 88]) (st' := [.int (270 : Int32), .ref 88]) hX ok_Model_init rfl ?_
  refine nx_newa (c := 13) (w := 270) (n' := 90) (c' := 1) (s' := 270) hX ok_Model_init (nx := 10) rfl (Or.inl ⟨rfl, rfl⟩) xw_aI (by decide) rfl (Nat.le_of_ble_eq_true rfl) ⟨Nat.le_of_ble_eq_true rfl, Nat.le_of_ble_eq_true rfl⟩ ⟨rfl, rfl, rfl⟩ ?_
  refine nx_putp (c := 12) (w := 0) (k := 0) hX ok_Model_init rfl (Nat.le_of_ble_eq_true rfl) rfl (nx := 13) rfl (Or.inr ⟨rfl, rfl, rfl⟩) rfl ?_
  refine nx_go 2 (pc' := 17) (lv' := [.ref 88]) (st' := [.int (270 : Int32), .ref 88]) hX ok_Model_init rfl ?_
  refine nx_newa (c := 13) (w := 270) (n' := 91) (c' := 2) (s' := 540) hX ok_Model_init (nx := 19) rfl (Or.inl ⟨rfl, rfl⟩) xw_aI (by decide) rfl (Nat.le_of_ble_eq_true rfl) ⟨Nat.le_of_ble_eq_true rfl, Nat.le_of_ble_eq_true rfl⟩ ⟨rfl, rfl, rfl⟩ ?_
  refine nx_putp (c := 12) (w := 0) (k := 1) hX ok_Model_init rfl (Nat.le_of_ble_eq_true rfl) rfl (nx := 22) rfl (Or.inr ⟨rfl, rfl, rfl⟩) rfl ?_
  refine nx_go 2 (pc' := 25) (lv' := [.ref 88]) (st' := [.int (6 : Int32), .ref 88]) hX ok_Model_init rfl ?_
  refine nx_newa (c := 13) (w := 6) (n' := 92) (c' := 3) (s' := 546) hX ok_Model_init (nx := 27) rfl (Or.inl ⟨rfl, rfl⟩) xw_aI (by decide) rfl (Nat.le_of_ble_eq_true rfl) ⟨Nat.le_of_ble_eq_true rfl, Nat.le_of_ble_eq_true rfl⟩ ⟨rfl, rfl, rfl⟩ ?_
  refine nx_putp (c := 12) (w := 0) (k := 3) hX ok_Model_init rfl (Nat.le_of_ble_eq_true rfl) rfl (nx := 30) rfl (Or.inr ⟨rfl, rfl, rfl⟩) rfl ?_
  refine nx_go 2 (pc' := 32) (lv' := [.ref 88]) (st' := [.int (4 : Int32), .ref 88]) hX ok_Model_init rfl ?_
  refine nx_newa (c := 13) (w := 4) (n' := 93) (c' := 4) (s' := 550) hX ok_Model_init (nx := 34) rfl (Or.inl ⟨rfl, rfl⟩) xw_aI (by decide) rfl (Nat.le_of_ble_eq_true rfl) ⟨Nat.le_of_ble_eq_true rfl, Nat.le_of_ble_eq_true rfl⟩ ⟨rfl, rfl, rfl⟩ ?_
  refine nx_putp (c := 12) (w := 0) (k := 10) hX ok_Model_init rfl (Nat.le_of_ble_eq_true rfl) rfl (nx := 37) rfl (Or.inr ⟨rfl, rfl, rfl⟩) rfl ?_
  refine nx_go 2 (pc' := 40) (lv' := [.ref 88]) (st' := [.int (8 : Int32), .ref 88]) hX ok_Model_init rfl ?_
  refine nx_newa (c := 13) (w := 8) (n' := 94) (c' := 5) (s' := 558) hX ok_Model_init (nx := 42) rfl (Or.inl ⟨rfl, rfl⟩) xw_aI (by decide) rfl (Nat.le_of_ble_eq_true rfl) ⟨Nat.le_of_ble_eq_true rfl, Nat.le_of_ble_eq_true rfl⟩ ⟨rfl, rfl, rfl⟩ ?_
  refine nx_putp (c := 12) (w := 0) (k := 11) hX ok_Model_init rfl (Nat.le_of_ble_eq_true rfl) rfl (nx := 45) rfl (Or.inr ⟨rfl, rfl, rfl⟩) rfl ?_
  refine nx_go 2 (pc' := 49) (lv' := [.ref 88]) (st' := [.int (256 : Int32), .ref 88]) hX ok_Model_init rfl ?_
  refine nx_newa (c := 13) (w := 256) (n' := 95) (c' := 6) (s' := 814) hX ok_Model_init (nx := 51) rfl (Or.inl ⟨rfl, rfl⟩) xw_aI (by decide) rfl (Nat.le_of_ble_eq_true rfl) ⟨Nat.le_of_ble_eq_true rfl, Nat.le_of_ble_eq_true rfl⟩ ⟨rfl, rfl, rfl⟩ ?_
  refine nx_putp (c := 12) (w := 0) (k := 12) hX ok_Model_init rfl (Nat.le_of_ble_eq_true rfl) rfl (nx := 54) rfl (Or.inr ⟨rfl, rfl, rfl⟩) rfl ?_
  refine nx_go 2 (pc' := 58) (lv' := [.ref 88]) (st' := [.int (256 : Int32), .ref 88]) hX ok_Model_init rfl ?_
  refine nx_newa (c := 13) (w := 256) (n' := 96) (c' := 7) (s' := 1070) hX ok_Model_init (nx := 60) rfl (Or.inl ⟨rfl, rfl⟩) xw_aI (by decide) rfl (Nat.le_of_ble_eq_true rfl) ⟨Nat.le_of_ble_eq_true rfl, Nat.le_of_ble_eq_true rfl⟩ ⟨rfl, rfl, rfl⟩ ?_
  refine nx_putp (c := 12) (w := 0) (k := 13) hX ok_Model_init rfl (Nat.le_of_ble_eq_true rfl) rfl (nx := 63) rfl (Or.inr ⟨rfl, rfl, rfl⟩) rfl ?_
  refine nx_go 2 (pc' := 67) (lv' := [.ref 88]) (st' := [.int (256 : Int32), .ref 88]) hX ok_Model_init rfl ?_
  refine nx_newa (c := 13) (w := 256) (n' := 97) (c' := 8) (s' := 1326) hX ok_Model_init (nx := 69) rfl (Or.inl ⟨rfl, rfl⟩) xw_aI (by decide) rfl (Nat.le_of_ble_eq_true rfl) ⟨Nat.le_of_ble_eq_true rfl, Nat.le_of_ble_eq_true rfl⟩ ⟨rfl, rfl, rfl⟩ ?_
  refine nx_putp (c := 12) (w := 0) (k := 14) hX ok_Model_init rfl (Nat.le_of_ble_eq_true rfl) rfl (nx := 72) rfl (Or.inr ⟨rfl, rfl, rfl⟩) rfl ?_
  refine nx_go 2 (pc' := 75) (lv' := [.ref 88]) (st' := [.int (8 : Int32), .ref 88]) hX ok_Model_init rfl ?_
  refine nx_newa (c := 13) (w := 8) (n' := 98) (c' := 9) (s' := 1334) hX ok_Model_init (nx := 77) rfl (Or.inl ⟨rfl, rfl⟩) xw_aI (by decide) rfl (Nat.le_of_ble_eq_true rfl) ⟨Nat.le_of_ble_eq_true rfl, Nat.le_of_ble_eq_true rfl⟩ ⟨rfl, rfl, rfl⟩ ?_
  refine nx_putp (c := 12) (w := 0) (k := 15) hX ok_Model_init rfl (Nat.le_of_ble_eq_true rfl) rfl (nx := 80) rfl (Or.inr ⟨rfl, rfl, rfl⟩) rfl ?_
  refine nx_go 2 (pc' := 83) (lv' := [.ref 88]) (st' := [.int (8 : Int32), .ref 88]) hX ok_Model_init rfl ?_
  refine nx_newa (c := 13) (w := 8) (n' := 99) (c' := 10) (s' := 1342) hX ok_Model_init (nx := 85) rfl (Or.inl ⟨rfl, rfl⟩) xw_aI (by decide) rfl (Nat.le_of_ble_eq_true rfl) ⟨Nat.le_of_ble_eq_true rfl, Nat.le_of_ble_eq_true rfl⟩ ⟨rfl, rfl, rfl⟩ ?_
  refine nx_putp (c := 12) (w := 0) (k := 16) hX ok_Model_init rfl (Nat.le_of_ble_eq_true rfl) rfl (nx := 88) rfl (Or.inr ⟨rfl, rfl, rfl⟩) rfl ?_
  refine nx_go 2 (pc' := 91) (lv' := [.ref 88]) (st' := [.int (8 : Int32), .ref 88]) hX ok_Model_init rfl ?_
  refine nx_newa (c := 13) (w := 8) (n' := 100) (c' := 11) (s' := 1350) hX ok_Model_init (nx := 93) rfl (Or.inl ⟨rfl, rfl⟩) xw_aI (by decide) rfl (Nat.le_of_ble_eq_true rfl) ⟨Nat.le_of_ble_eq_true rfl, Nat.le_of_ble_eq_true rfl⟩ ⟨rfl, rfl, rfl⟩ ?_
  refine nx_putp (c := 12) (w := 0) (k := 17) hX ok_Model_init rfl (Nat.le_of_ble_eq_true rfl) rfl (nx := 96) rfl (Or.inr ⟨rfl, rfl, rfl⟩) rfl ?_
  refine nx_go 2 (pc' := 100) (lv' := [.ref 88]) (st' := [.int (256 : Int32), .ref 88]) hX ok_Model_init rfl ?_
  refine nx_newa (c := 14) (w := 256) (n' := 101) (c' := 12) (s' := 1606) hX ok_Model_init (nx := 102) rfl (Or.inr ⟨rfl, rfl⟩) xw_aZ (by decide) rfl (Nat.le_of_ble_eq_true rfl) ⟨Nat.le_of_ble_eq_true rfl, Nat.le_of_ble_eq_true rfl⟩ ⟨rfl, rfl, rfl⟩ ?_
  refine nx_putp (c := 12) (w := 0) (k := 18) hX ok_Model_init rfl (Nat.le_of_ble_eq_true rfl) rfl (nx := 105) rfl (Or.inr ⟨rfl, rfl, rfl⟩) rfl ?_
  refine nx_go 2 (pc' := 109) (lv' := [.ref 88]) (st' := [.int (256 : Int32), .ref 88]) hX ok_Model_init rfl ?_
  refine nx_newa (c := 13) (w := 256) (n' := 102) (c' := 13) (s' := 1862) hX ok_Model_init (nx := 111) rfl (Or.inl ⟨rfl, rfl⟩) xw_aI (by decide) rfl (Nat.le_of_ble_eq_true rfl) ⟨Nat.le_of_ble_eq_true rfl, Nat.le_of_ble_eq_true rfl⟩ ⟨rfl, rfl, rfl⟩ ?_
  refine nx_putp (c := 12) (w := 0) (k := 19) hX ok_Model_init rfl (Nat.le_of_ble_eq_true rfl) rfl (nx := 114) rfl (Or.inr ⟨rfl, rfl, rfl⟩) rfl ?_
  refine nx_go 2 (pc' := 117) (lv' := [.ref 88]) (st' := [.int (40 : Int32), .ref 88]) hX ok_Model_init rfl ?_
  refine nx_newa (c := 13) (w := 40) (n' := 103) (c' := 14) (s' := 1902) hX ok_Model_init (nx := 119) rfl (Or.inl ⟨rfl, rfl⟩) xw_aI (by decide) rfl (Nat.le_of_ble_eq_true rfl) ⟨Nat.le_of_ble_eq_true rfl, Nat.le_of_ble_eq_true rfl⟩ ⟨rfl, rfl, rfl⟩ ?_
  refine nx_putp (c := 12) (w := 0) (k := 20) hX ok_Model_init rfl (Nat.le_of_ble_eq_true rfl) rfl (nx := 122) rfl (Or.inr ⟨rfl, rfl, rfl⟩) rfl ?_
  refine nx_go 2 (pc' := 124) (lv' := [.ref 88]) (st' := [.int (4 : Int32), .ref 88]) hX ok_Model_init rfl ?_
  refine nx_newa (c := 13) (w := 4) (n' := 104) (c' := 15) (s' := 1906) hX ok_Model_init (nx := 126) rfl (Or.inl ⟨rfl, rfl⟩) xw_aI (by decide) rfl (Nat.le_of_ble_eq_true rfl) ⟨Nat.le_of_ble_eq_true rfl, Nat.le_of_ble_eq_true rfl⟩ ⟨rfl, rfl, rfl⟩ ?_
  refine nx_putp (c := 12) (w := 0) (k := 23) hX ok_Model_init rfl (Nat.le_of_ble_eq_true rfl) rfl (nx := 129) rfl (Or.inr ⟨rfl, rfl, rfl⟩) rfl ?_
  refine nx_go 2 (pc' := 131) (lv' := [.ref 88]) (st' := [.int (4 : Int32), .ref 88]) hX ok_Model_init rfl ?_
  refine nx_newa (c := 13) (w := 4) (n' := 105) (c' := 16) (s' := 1910) hX ok_Model_init (nx := 133) rfl (Or.inl ⟨rfl, rfl⟩) xw_aI (by decide) rfl (Nat.le_of_ble_eq_true rfl) ⟨Nat.le_of_ble_eq_true rfl, Nat.le_of_ble_eq_true rfl⟩ ⟨rfl, rfl, rfl⟩ ?_
  refine nx_putp (c := 12) (w := 0) (k := 24) hX ok_Model_init rfl (Nat.le_of_ble_eq_true rfl) rfl (nx := 136) rfl (Or.inr ⟨rfl, rfl, rfl⟩) rfl ?_
  refine nx_go 2 (pc' := 140) (lv' := [.ref 88]) (st' := [.int (160 : Int32), .ref 88]) hX ok_Model_init rfl ?_
  refine nx_newa (c := 13) (w := 160) (n' := 106) (c' := 17) (s' := 2070) hX ok_Model_init (nx := 142) rfl (Or.inl ⟨rfl, rfl⟩) xw_aI (by decide) rfl (Nat.le_of_ble_eq_true rfl) ⟨Nat.le_of_ble_eq_true rfl, Nat.le_of_ble_eq_true rfl⟩ ⟨rfl, rfl, rfl⟩ ?_
  refine nx_putp (c := 12) (w := 0) (k := 25) hX ok_Model_init rfl (Nat.le_of_ble_eq_true rfl) rfl (nx := 145) rfl (Or.inr ⟨rfl, rfl, rfl⟩) rfl ?_
  refine nx_go 2 (pc' := 148) (lv' := [.ref 88]) (st' := [.int (40 : Int32), .ref 88]) hX ok_Model_init rfl ?_
  refine nx_newa (c := 13) (w := 40) (n' := 107) (c' := 18) (s' := 2110) hX ok_Model_init (nx := 150) rfl (Or.inl ⟨rfl, rfl⟩) xw_aI (by decide) rfl (Nat.le_of_ble_eq_true rfl) ⟨Nat.le_of_ble_eq_true rfl, Nat.le_of_ble_eq_true rfl⟩ ⟨rfl, rfl, rfl⟩ ?_
  refine nx_putp (c := 12) (w := 0) (k := 26) hX ok_Model_init rfl (Nat.le_of_ble_eq_true rfl) rfl (nx := 153) rfl (Or.inr ⟨rfl, rfl, rfl⟩) rfl ?_
  refine nx_go 1 (pc' := 154) (lv' := [.ref 88]) (st' := [.ref 88]) hX ok_Model_init rfl ?_
  refine nx_getp (c := 12) (w := 0) (k := 0) (q := 89) hX ok_Model_init rfl (Nat.le_of_ble_eq_true rfl) rfl (nx := 157) rfl rfl rfl ?_
  refine nx_go 2 (pc' := 159) (lv' := [.ref 88]) (st' := [.int (1 : Int32), .int (2 : Int32), .ref 89]) hX ok_Model_init rfl ?_
  refine nx_iast (w := 270) (j := 2) hX ok_Model_init (Nat.le_of_ble_eq_true rfl) (Nat.le_of_ble_eq_true rfl) rfl (nx := 160) rfl (by decide) (by decide) ?_
  exact nx_vret hX hE ok_Model_init (nx := 161) rfl rfl ⟨Nat.le_of_ble_eq_true rfl, Nat.le_of_ble_eq_true rfl⟩
