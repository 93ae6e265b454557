/-! all cells stand: the places as kW has them, and the first relation -/
def Zs : HI := z_Model_init_88 (xrow (z_H_init_0 (xrow (fun _ => z0) 0 z0)) 88 z0)
def Ps : Nat → Nat → Option Nat := p_Model_init_88 (xprow (p_H_init_0 (xprow (fun _ => o0) 0 o0)) 88 o0)
def Z1 : HI := fun r j => if ((3 ≤ r ∧ r < 11) ∨ (34 ≤ r ∧ r < 42)) ∧ j = 5 then 9999 else if (r = 1 ∨ r = 32) ∧ j = 12 then 1 else if r = 89 ∧ j = 2 then 1 else 0
def wdh (r : Nat) : Nat := if (xtab r).1 < 13 then xN (xtab r).1 else (xtab r).2
theorem Zs_ok : ∀ r, r < 107 → ∀ j, j < wdh r → Zs r j = Z1 r j := by decide +kernel
theorem Ps_ok : ∀ r, r < 107 → ∀ j, j < wdh r → Ps r j = kP (C0 0) r j := by decide +kernel
theorem kP0 {L : Nat} : kP (C0 L) = kP (C0 0) := rfl
theorem arrV_congr {c : ClassId} {w : Nat} {f g : Nat → Value} (h : ∀ j, j < w → f j = g j) : arrV c w f = arrV c w g := by
  have e : (fun j : Fin w => f j.val) = fun j : Fin w => g j.val := funext fun j => h j.val j.isLt
  show ({ cls := c, slots := Array.ofFn (n := w) fun j => f j.val, vm := .none } : Cell) = { cls := c, slots := Array.ofFn (n := w) fun j => g j.val, vm := .none }
  rw [e]
theorem xR_conv {G : xG} {L : Nat} {O Z Z' : HI} {P P' : Nat → Nat → Option Nat} {H : Heap} (hZ : ∀ r, r < 107 → ∀ j, j < wdh r → Z r j = Z' r j) (hP : ∀ r, r < 107 → ∀ j, j < wdh r → P r j = P' r j) (h : xR G 107 (kK (C0 L)) (ov Z O) P H) : xR G 107 (kK (C0 L)) (ov Z' O) P' H := by
  refine ⟨h.1, fun k q hk => ?_, h.2.2.1, h.2.2.2.1, h.2.2.2.2.1, fun j hj => ?_⟩
  · obtain ⟨hl, rfl⟩ := xL_inv hk
    have h2 := h.at hl
    have eK : kK (C0 L) k = ((xtab k).1, (xtab k).2) := kK_lit hl
    have eZ : ov Z O k = Z k := if_pos (by omega)
    have eZ' : ov Z' O k = Z' k := if_pos (by omega)
    by_cases c13 : (xtab k).1 < 13
    · have hw : wdh k = xN (xtab k).1 := if_pos c13
      rw [xE_obj eK c13] at h2 ⊢
      have e : (List.range (xN (xtab k).1)).map (xfv G (ov Z O) P (xtab k).1 k) = (List.range (xN (xtab k).1)).map (xfv G (ov Z' O) P' (xtab k).1 k) := by
        refine List.map_congr_left fun j hj => ?_
        have hjN := List.mem_range.mp hj
        unfold xfv
        rw [eZ, eZ', hZ k hl j (by rw [hw]; exact hjN), hP k hl j (by rw [hw]; exact hjN)]
      rw [e] at h2
      exact h2
    · have hw : wdh k = (xtab k).2 := if_neg c13
      by_cases c15 : (xtab k).1 < 15
      · rw [xE_int eK c13 c15] at h2 ⊢
        have h3 : H[G.2.2.1 + k]? = some (arrV (G.2.1 (xtab k).1) (xtab k).2 (fun j => .int (ov Z O k j))) := h2
        show H[G.2.2.1 + k]? = some (arrV (G.2.1 (xtab k).1) (xtab k).2 (fun j => .int (ov Z' O k j)))
        rw [h3, arrV_congr (f := fun j => .int (ov Z O k j)) (g := fun j => .int (ov Z' O k j)) (fun j hj => by
          show Value.int (ov Z O k j) = .int (ov Z' O k j)
          rw [eZ, eZ', hZ k hl j (by rw [hw]; exact hj)])]
      · rw [xE_ref eK c15] at h2 ⊢
        have h3 : H[G.2.2.1 + k]? = some (arrV (G.2.1 (xtab k).1) (xtab k).2 (fun j => va_rf ((P k j).map (xmu G)))) := h2
        show H[G.2.2.1 + k]? = some (arrV (G.2.1 (xtab k).1) (xtab k).2 (fun j => va_rf ((P' k j).map (xmu G))))
        rw [h3, arrV_congr (f := fun j => va_rf ((P k j).map (xmu G))) (g := fun j => va_rf ((P' k j).map (xmu G))) (fun j hj => by
          show va_rf ((P k j).map (xmu G)) = va_rf ((P' k j).map (xmu G))
          rw [hP k hl j (by rw [hw]; exact hj)])]
  · have h3 := h.2.2.2.2.2 j hj
    have e : ov Z' O (1000000 + j) = ov Z O (1000000 + j) := by
      unfold ov
      rw [if_neg (by omega), if_neg (by omega)]
    rw [e]
    exact h3
theorem nxW_kW {G : xG} {X : xC} {Y : MI} {L : Nat} {O : HI} {cells slots pc : Nat} {lv st : List Value} (kk : kW G X Y (C0 L) (ov Z1 O) cells slots pc lv st) : nxW G X Y L O 107 Zs Ps cells slots pc lv st := by
  intro H locs ls hR hlo hlv
  refine kk H locs ls ?_ hlo hlv
  rw [kP0]
  exact xR_conv Zs_ok Ps_ok hR
set_option maxRecDepth 20000 in
set_option maxHeartbeats 4000000 in
/-- the law's two objects are made -/
theorem law_new {G : xG} {X : xC} {d L : Nat} {O : HI} (hd : 4 ≤ d) (hX : xAmb G X m_Law_law d 600000 7302250) (kk : kW G X m_Law_law (C0 L) (ov Z1 O) 107 4608 18 [.ref 1000000, .ref 0, .ref 88, .int 0] []) : nxW G X m_Law_law L O 0 (fun _ => z0) (fun _ => o0) 0 0 0 [.ref 1000000, .null, .null, .null] [] := by
  refine nx_new (c := 11) (w := 0) (n' := 1) (c' := 1) (s' := 10) hX ok_Law_law (nx := 3) rfl (by decide) l_Law_7 rfl (Nat.le_of_ble_eq_true rfl) ⟨Nat.le_of_ble_eq_true rfl, Nat.le_of_ble_eq_true rfl⟩ ⟨rfl, rfl, rfl⟩ ?_
  refine nx_go 1 (pc' := 4) (lv' := [.ref 1000000, .null, .null, .null]) (st' := [.ref 0, .ref 0]) hX ok_Law_law rfl ?_
  refine nx_I (as := []) (rest := [.ref 0]) (c' := 88) (s' := 2471) hX ok_Law_law (nx := 7) rfl l_Law_9 rfl (Nat.le_of_ble_eq_true rfl) (n_H_init_0 (d := 3) (by omega)) (by omega) rfl rfl (Nat.le_of_ble_eq_true rfl) ⟨Nat.le_of_ble_eq_true rfl, Nat.le_of_ble_eq_true rfl⟩ ⟨rfl, rfl⟩ ?_
  refine nx_go 1 (pc' := 8) (lv' := [.ref 1000000, .ref 0, .null, .null]) (st' := []) hX ok_Law_law rfl ?_
  refine nx_new (c := 12) (w := 0) (n' := 89) (c' := 89) (s' := 2498) hX ok_Law_law (nx := 11) rfl (by decide) l_Law_10 rfl (Nat.le_of_ble_eq_true rfl) ⟨Nat.le_of_ble_eq_true rfl, Nat.le_of_ble_eq_true rfl⟩ ⟨rfl, rfl, rfl⟩ ?_
  refine nx_go 1 (pc' := 12) (lv' := [.ref 1000000, .ref 0, .null, .null]) (st' := [.ref 88, .ref 88]) hX ok_Law_law rfl ?_
  refine nx_I (as := []) (rest := [.ref 88]) (c' := 107) (s' := 4608) hX ok_Law_law (nx := 15) rfl l_Law_12 rfl (Nat.le_of_ble_eq_true rfl) (n_Model_init_88 (d := 1) (by omega)) (by omega) rfl rfl (Nat.le_of_ble_eq_true rfl) ⟨Nat.le_of_ble_eq_true rfl, Nat.le_of_ble_eq_true rfl⟩ ⟨rfl, rfl⟩ ?_
  refine nx_go 3 (pc' := 18) (lv' := [.ref 1000000, .ref 0, .ref 88, .int (0 : Int32)]) (st' := []) hX ok_Law_law rfl ?_
  exact nxW_kW kk
/-! the first relation -/
theorem z1_z {r j : Nat} (h : ¬ (((3 ≤ r ∧ r < 11) ∨ (34 ≤ r ∧ r < 42)) ∧ j = 5) ∧ ¬ ((r = 1 ∨ r = 32) ∧ j = 12) ∧ ¬ (r = 89 ∧ j = 2)) : Z1 r j = 0 := by
  unfold Z1
  rw [if_neg h.1, if_neg h.2.1, if_neg h.2.2]
theorem ov_z {O : HI} {r j : Nat} (hr : r < 1000000) (h : ¬ (((3 ≤ r ∧ r < 11) ∨ (34 ≤ r ∧ r < 42)) ∧ j = 5) ∧ ¬ ((r = 1 ∨ r = 32) ∧ j = 12) ∧ ¬ (r = 89 ∧ j = 2)) : ov Z1 O r j = 0 := by
  have e : ov Z1 O r = Z1 r := if_pos hr
  rw [e]
  exact z1_z h
theorem rel0 {L : Nat} {xs : Nat → Int32} {O : HI} (hO : O 1000000 = xs) (hM : MP O) : Rel 0 L xs (C0 L) (ov Z1 O) := by
  have e89 : ov Z1 O 89 = Z1 89 := rfl
  have hD : ∀ j, j ≠ 2 → Z1 89 j = 0 := fun j hj => z1_z (by omega)
  have n0 : nS (Z1 89) = 0 := by unfold nS; rw [hD 0 (by omega)]; rfl
  have n1 : nL (Z1 89) = 0 := by unfold nL; rw [hD 1 (by omega)]; rfl
  have n3 : nT (Z1 89) = 0 := by unfold nT; rw [hD 3 (by omega)]; rfl
  have n4 : nW (Z1 89) = 0 := by unfold nW; rw [hD 4 (by omega)]; rfl
  have t0 : tl (Z1 89) 0 = 0 := by unfold tl; rw [hD (97 + 0) (by omega)]; rfl
  have t1 : tl (Z1 89) 1 = 0 := by unfold tl; rw [hD (97 + 1) (by omega)]; rfl
  have hn : (0 : Int32) = nI 0 := rfl
  unfold Rel
  rw [e89]
  refine ⟨⟨Nat.le_refl _, rfl, fun i hi => ?_, fun i j _ _ h => ?_, fun i j _ _ h => ?_, fun i j hi hj h => ?_⟩, ?_, ?_, ?_, ?_, ?_, ?_, ?_, ?_, ?_⟩
  · rcases (show i = 0 ∨ i = 1 ∨ i = 2 ∨ i = 3 ∨ i = 4 ∨ i = 5 ∨ i = 6 ∨ i = 7 by omega) with rfl | rfl | rfl | rfl | rfl | rfl | rfl | rfl <;> exact ⟨rfl, rfl⟩
  · have h : 3 + i = 3 + j := h
    omega
  · have h : 34 + i = 34 + j := h
    omega
  · have h : 3 + i = 34 + j := h
    omega
  · refine ⟨⟨?_, ?_⟩, ⟨?_, ?_⟩, ⟨?_, ?_⟩, ⟨?_, ?_⟩, fun s hs => ?_, fun l hl => ?_, fun j hj => ?_, ⟨?_, ?_, fun j hj => ?_, fun h => ?_⟩, ⟨?_, ?_, fun j hj => ?_, fun h => ?_⟩⟩
    · rw [n0]; exact (hD 0 (by omega)).trans hn
    · omega
    · rw [n1]; exact (hD 1 (by omega)).trans hn
    · omega
    · rw [n3]; exact (hD 3 (by omega)).trans hn
    · omega
    · rw [n4]; exact (hD 4 (by omega)).trans hn
    · omega
    · omega
    · omega
    · omega
    · rw [t0]; exact (hD (97 + 0) (by omega)).trans hn
    · omega
    · omega
    · exact absurd t0 h
    · rw [t1]; exact (hD (97 + 1) (by omega)).trans hn
    · omega
    · omega
    · exact absurd t1 h
  · refine ⟨⟨?_, ?_, ?_, ?_, ?_⟩, fun s hs => ?_, fun l hl => ?_, fun j hj => ?_, fun j hj => ?_, ⟨fun _ => ?_, fun h => ?_⟩, ⟨fun _ => ?_, fun h => ?_⟩⟩
    · exact (ov_z (by omega) (by decide)).trans (hD 0 (by omega)).symm
    · exact (ov_z (by omega) (by decide)).trans (hD 1 (by omega)).symm
    · exact (ov_z (by omega) (by decide)).trans (hD 3 (by omega)).symm
    · exact (ov_z (by omega) (by decide)).trans (hD 4 (by omega)).symm
    · have e1 : ov Z1 O 1 = Z1 1 := if_pos (by omega)
      rw [e1]
      decide
    · omega
    · omega
    · omega
    · omega
    · exact ov_z (by omega) (by decide)
    · exact absurd t0 h
    · exact ov_z (by omega) (by decide)
    · exact absurd t1 h
  · exact (ov_z (by omega) (by decide)).trans (ov_z (by omega) (by decide)).symm
  · exact fun h => absurd (ov_z (by omega) (by decide)) h
  · exact fun k hk => (ov_z (by omega) (by omega)).trans (ov_z (by omega) (by omega)).symm
  · exact ⟨0, by omega, (ov_z (by omega) (by decide)).trans hn, (ov_z (by omega) (by decide)).trans hn, fun j hj => absurd hj (by omega)⟩
  · exact fun s hs => ⟨(ov_z (by omega) (by omega)).trans (ov_z (by omega) (by omega)).symm, (ov_z (by omega) (by omega)).trans (ov_z (by omega) (by omega)).symm, Or.inl (ov_z (by omega) (by omega)), ⟨0, by omega, (ov_z (by omega) (by omega)).trans hn⟩, fun j hj => (ov_z (by omega) (by omega)).trans (ov_z (by omega) (by omega)).symm⟩
  · have e : ov Z1 O 1000001 = O 1000001 := if_neg (by omega)
    unfold MP
    rw [e]
    exact hM
  · have e : ov Z1 O 1000000 = O 1000000 := if_neg (by omega)
    exact e.trans hO
set_option maxRecDepth 20000 in
/-- the law, from its first instruction to its last but one -/
theorem law_all {G : xG} {X : xC} {d L : Nat} {xs : Nat → Int32} {O : HI} (hd : 545 ≤ d) (hX : xAmb G X m_Law_law d 600000 7302250) (hL : L ≤ 384) (hO : O 1000000 = xs) (hM : MP O) (hend : ∀ (C : HC) (I : HI), kW G X m_Law_law C I 600000 7302250 1388 [.null, .null, .null, .null] [.int 1]) : nxW G X m_Law_law L O 0 (fun _ => z0) (fun _ => o0) 0 0 0 [.ref 1000000, .null, .null, .null] [] := by
  refine law_new (by omega) hX ?_
  obtain ⟨r, hr⟩ := law_ok hL 66 0 0 (C0 L) (ov Z1 O) (rel0 hO hM) (by omega) (by omega) (by omega)
  refine s_L_Law_law_18 hd hX 66 (nI 0) (C0 L) (ov Z1 O) r 107 4608 ?_ ⟨Nat.le_of_ble_eq_true rfl, Nat.le_of_ble_eq_true rfl⟩ hr
  refine kx_widen (cells' := 600000) (slots' := 7302250) (Nat.le_of_ble_eq_true rfl) (Nat.le_of_ble_eq_true rfl) ?_
  exact kx_go (A := True) 1 (pc' := 1388) (lv' := [.null, .null, .null, .null]) (st' := [.int 1]) hX ok_Law_law rfl (fun _ => hend r.1 r.2) trivial
