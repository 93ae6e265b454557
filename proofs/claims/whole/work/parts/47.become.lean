section RN
variable {B B' L : Nat} {xs : Nat → Int32} {C C' : HC} {I J K : HI} {D : Nat → Int32}
theorem gS_N {k q : Nat} (h : gS C q = true) : gS (cN C k) q = true ∧ kc (cN C k) q = kc C q := by
  have h1 := gS_lt h
  have h2 := gS_k h
  have e : kc (cN C k) q = kc C q := by
    unfold kc kK
    by_cases a : q < 107
    · rw [if_pos a, if_pos a]
    · rw [if_neg a, if_neg a]
      by_cases b : q = 1000000
      · rw [if_pos b, if_pos b]
      · rw [if_neg b, if_neg b]
        by_cases c : q = 1000001
        · rw [if_pos c, if_pos c]
        · rw [if_neg c, if_neg c]
          show (if q = 107 + hm C then k else hk C q) = hk C q
          rw [if_neg (by omega)]
  refine ⟨?_, e⟩
  unfold gS
  rw [e]
  simp only [Bool.and_eq_true, Nat.blt_eq]
  exact ⟨by show q < 107 + (hm C + 1); omega, h2⟩
theorem gS_new {k : Nat} (hk7 : k < 7) (hm8 : hm C < 800000) : gS (cN C k) (107 + hm C) = true ∧ kc (cN C k) (107 + hm C) = k := by
  have e : kc (cN C k) (107 + hm C) = k := by
    unfold kc kK
    rw [if_neg (by omega), if_neg (by omega), if_neg (by omega)]
    show (if 107 + hm C = 107 + hm C then k else hk C _) = k
    rw [if_pos rfl]
  refine ⟨?_, e⟩
  unfold gS
  rw [e]
  simp only [Bool.and_eq_true, Nat.blt_eq]
  exact ⟨by show 107 + hm C < 107 + (hm C + 1); omega, hk7⟩
theorem blank_c {k : Nat} (hk : k < 7) (hm8 : hm C < 800000) : M_Wall_blankOfKind C I (nI k) = some (107 + hm C, cN C k, xu (xrow I (107 + hm C) (fun _ => 0)) (107 + hm C) 5 9999) := by
  have hg : Nat.blt (hm C) 800000 = true := by simpa using hm8
  unfold M_Wall_blankOfKind
  simp only [grd_t hg]
  rcases (show k = 0 ∨ k = 1 ∨ k = 2 ∨ k = 3 ∨ k = 4 ∨ k = 5 ∨ k = 6 by omega) with rfl | rfl | rfl | rfl | rfl | rfl | rfl <;> rfl
theorem lay_T (h : Lay B L C) (hm8 : hm C < 800000) {k i : Nat} (hk : k < 7) (hi : i < 8) : Lay (B + 1) L (cT (cN C k) i (107 + hm C)) := by
  obtain ⟨a1, a2, a3, a4, a5, a6⟩ := h
  have tT : ∀ j, hT (cT (cN C k) i (107 + hm C)) j = if j = i then 107 + hm C else hT C j := fun j => rfl
  have tU : ∀ j, hU (cT (cN C k) i (107 + hm C)) j = hU C j := fun j => rfl
  have tg : ∀ q, gS (cT (cN C k) i (107 + hm C)) q = gS (cN C k) q := fun q => rfl
  have nT : ∀ j, j < 8 → hT C j ≠ 107 + hm C := fun j hj => by have := gS_lt (a3 j hj).1; omega
  have nU : ∀ j, j < 8 → hU C j ≠ 107 + hm C := fun j hj => by have := gS_lt (a3 j hj).2; omega
  refine ⟨by show hm C + 1 ≤ B + 1; omega, a2, fun j hj => ⟨?_, ?_⟩, fun j l hj hl => ?_, fun j l hj hl => ?_, fun j l hj hl => ?_⟩
  · rw [tT, tg]
    by_cases e : j = i
    · rw [if_pos e]; exact (gS_new hk hm8).1
    · rw [if_neg e]; exact (gS_N (a3 j hj).1).1
  · rw [tU, tg]; exact (gS_N (a3 j hj).2).1
  · rw [tT, tT]
    by_cases e : j = i
    · rw [if_pos e]
      by_cases e' : l = i
      · rw [if_pos e']; intro _; omega
      · rw [if_neg e']; intro q; exact absurd q.symm (nT l hl)
    · rw [if_neg e]
      by_cases e' : l = i
      · rw [if_pos e']; intro q; exact absurd q (nT j hj)
      · rw [if_neg e']; exact a4 j l hj hl
  · rw [tU, tU]; exact a5 j l hj hl
  · rw [tT, tU]
    by_cases e : j = i
    · rw [if_pos e]; exact fun q => nU l hl q.symm
    · rw [if_neg e]; exact a6 j l hj hl
theorem lay_U (h : Lay B L C) (hm8 : hm C < 800000) {k i : Nat} (hk : k < 7) (hi : i < 8) : Lay (B + 1) L (cU (cN C k) i (107 + hm C)) := by
  obtain ⟨a1, a2, a3, a4, a5, a6⟩ := h
  have tT : ∀ j, hT (cU (cN C k) i (107 + hm C)) j = hT C j := fun j => rfl
  have tU : ∀ j, hU (cU (cN C k) i (107 + hm C)) j = if j = i then 107 + hm C else hU C j := fun j => rfl
  have tg : ∀ q, gS (cU (cN C k) i (107 + hm C)) q = gS (cN C k) q := fun q => rfl
  have nT : ∀ j, j < 8 → hT C j ≠ 107 + hm C := fun j hj => by have := gS_lt (a3 j hj).1; omega
  have nU : ∀ j, j < 8 → hU C j ≠ 107 + hm C := fun j hj => by have := gS_lt (a3 j hj).2; omega
  refine ⟨by show hm C + 1 ≤ B + 1; omega, a2, fun j hj => ⟨?_, ?_⟩, fun j l hj hl => ?_, fun j l hj hl => ?_, fun j l hj hl => ?_⟩
  · rw [tT, tg]; exact (gS_N (a3 j hj).1).1
  · rw [tU, tg]
    by_cases e : j = i
    · rw [if_pos e]; exact (gS_new hk hm8).1
    · rw [if_neg e]; exact (gS_N (a3 j hj).2).1
  · rw [tT, tT]; exact a4 j l hj hl
  · rw [tU, tU]
    by_cases e : j = i
    · rw [if_pos e]
      by_cases e' : l = i
      · rw [if_pos e']; intro _; omega
      · rw [if_neg e']; intro q; exact absurd q.symm (nU l hl)
    · rw [if_neg e]
      by_cases e' : l = i
      · rw [if_pos e']; intro q; exact absurd q (nU j hj)
      · rw [if_neg e']; exact a5 j l hj hl
  · rw [tT, tU]
    by_cases e : l = i
    · rw [if_pos e]; exact nT j hj
    · rw [if_neg e]; exact a6 j l hj hl
theorem div10 : ∀ a, a < 70 → nI a / 10 = nI (a / 10) ∧ nI a - nI a / 10 * 10 = nI (a % 10) := by decide +kernel
theorem err2 {k : Nat} {m : HI → Option (Int32 × HI)} (h : Rel B L xs C I) (h1 : 1 ≤ k) (h5 : k ≤ 5) (hm : m (xu I 87 k (I 87 k + 1)) = M_Model_finds (xu I 87 k (I 87 k + 1)) (nI k)) : OK2 B L xs (Option.bind (M_H_error I (nI k)) fun p => some (p.1, C, p.2)) m := by
  obtain ⟨v, J, K, a1, a2, a3⟩ := err_ok0 (m := m) k h1 h5 h rfl hm
  exact ⟨v, C, J, K, by rw [a1]; rfl, a2, a3.mono (by omega)⟩
theorem ok_stroke (h : Rel B L xs C I) (hB : B < 800000) (x y w : Int32) : OK2 B L xs (M_H_stroke C I x y w) (fun J => M_Model_stroke J x y w) := by
  obtain ⟨z1, z2, z3, z4, z5, z6⟩ := h.za
  have n8 := h.n8
  have hm8 : hm C < 800000 := by have := h.1.1; omega
  have hs1 := st_nI h
  have hm1 := mS_nI h
  unfold M_H_stroke M_Model_stroke
  simp only [bsome, lt_def, within_eq, in_nat x (a := 0) (b := 69) (by decide) (by decide), in_nat y (a := 0) (b := 35) (by decide) (by decide), in_nat w (a := 0) (b := 99) (by decide) (by decide)]
  have cv : ∀ (v : Int32) (c : Int32) (n : Nat), c.toInt = n → (if 0 ≤ v.toInt ∧ v.toInt ≤ c.toInt then (1 : Int32) else 0) = if ((0 : Nat) : Int) ≤ v.toInt ∧ v.toInt ≤ (n : Int) then 1 else 0 := fun v c n e => by rw [e]; rfl
  rw [cv x 69 69 rfl, cv y 35 35 rfl, cv w 99 99 rfl]
  by_cases hx : ((0 : Nat) : Int) ≤ x.toInt ∧ x.toInt ≤ ((69 : Nat) : Int)
  · simp only [if_pos hx, if_neg one0]
    by_cases hy : ((0 : Nat) : Int) ≤ y.toInt ∧ y.toInt ≤ ((35 : Nat) : Int)
    · simp only [if_pos hy, if_neg one0]
      by_cases hw : ((0 : Nat) : Int) ≤ w.toInt ∧ w.toInt ≤ ((99 : Nat) : Int)
      · simp only [if_pos hw, if_neg one0]
        obtain ⟨a, ha, rfl⟩ : ∃ a : Nat, (a ≤ 69) ∧ x = nI a := ⟨x.toInt.toNat, by omega, i_nI (by omega)⟩
        obtain ⟨b, hb, rfl⟩ : ∃ a : Nat, (a ≤ 35) ∧ y = nI a := ⟨y.toInt.toNat, by omega, i_nI (by omega)⟩
        obtain ⟨c, hc, rfl⟩ : ∃ a : Nat, (a ≤ 99) ∧ w = nI a := ⟨w.toInt.toNat, by omega, i_nI (by omega)⟩
        generalize hn : nS (I 89) = n at *
        by_cases h8 : n = 8
        · rw [hs1, if_neg (n_nlt 8 8 (by omega) (by omega))]
          refine err2 h (k := 4) (by decide) (by decide) ?_
          show (if xu I 87 4 _ 89 0 = 8 then _ else _) = _
          rw [e89, hm1, h8, if_pos (show nI 8 = 8 from rfl)]; rfl
        · rw [hs1, if_pos (n_lt 8 8 (by omega)), (div10 a (by omega)).1]
          unfold M_Wall_addStroke
          simp only [lt_def]
          rw [(div10 a (by omega)).2, (div10 a (by omega)).1, blank_c (by omega) hm8, Option.bind_some]
          simp only []
          rw [grd_t (gS_new (by omega) hm8).1, hs1, grd_t (bnd_nI (by omega) (by omega)), nI_clamp (by omega), Option.bind_some]
          simp only []
          generalize hq : 107 + hm C = q
          have qn : ∀ r, r < 107 → q ≠ r := fun r hr => by omega
          have v11 : xu (xu (xu (xu (xu (xrow I q fun x => 0) q 5 9999) q 0 (nI n)) q 1 (nI (a % 10))) q 2 (nI b)) q 3 (nI c) 1 1 = nI n := by
            rw [xu_qn (qn 1 (by decide)).symm, xu_qn (qn 1 (by decide)).symm, xu_qn (qn 1 (by decide)).symm, xu_qn (qn 1 (by decide)).symm, xu_qn (qn 1 (by decide)).symm, xr_ne (qn 1 (by decide)).symm, hs1]
          rw [v11, nI_1]
          generalize hJ : xu (xu (xu (xu (xu (xu (xrow I q fun x => 0) q 5 9999) q 0 (nI n)) q 1 (nI (a % 10))) q 2 (nI b)) q 3 (nI c)) 1 1 (nI (n + 1)) = J
          have j1 : ∀ r, r ≠ q → r ≠ 1 → J r = I r := fun r r1 r2 => by rw [← hJ, xu_ne r2, xu_ne r1, xu_ne r1, xu_ne r1, xu_ne r1, xu_ne r1, xr_ne r1]
          have j2 : ∀ k, k ≠ 1 → J 1 k = I 1 k := fun k hk => by rw [← hJ, xu_rn hk, xu_ne (qn 1 (by decide)).symm, xu_ne (qn 1 (by decide)).symm, xu_ne (qn 1 (by decide)).symm, xu_ne (qn 1 (by decide)).symm, xu_ne (qn 1 (by decide)).symm, xr_ne (qn 1 (by decide)).symm]
          have j3 : J 1 1 = nI (n + 1) := by rw [← hJ, xu_rr]
          have jq : ∀ k, J q k = if k = 3 then nI c else if k = 2 then nI b else if k = 1 then nI (a % 10) else if k = 0 then nI n else if k = 5 then 9999 else 0 := fun k => by
            rw [← hJ, xu_qn (qn 1 (by decide))]
            simp only [xu_app, if_pos rfl, xr_at]
            rfl
          have h89 : J 89 = I 89 := j1 89 (qn 89 (by decide)).symm (by decide)
          refine ⟨nI n, _, J, xu (xu (xu (xu (xu (xu (xu (xu J 89 (5 + 7 * n + 0) (nI (a / 10))) 89 (5 + 7 * n + 1) (nI (a % 10))) 89 (5 + 7 * n + 2) (nI b)) 89 (5 + 7 * n + 3) (nI c)) 89 (5 + 7 * n + 4) 0) 89 (5 + 7 * n + 5) 9999) 89 (5 + 7 * n + 6) 0) 89 0 (nI (n + 1)), rfl, ?_, ?_⟩
          · show (if J 89 0 = 8 then _ else _) = _
            rw [h89, hm1, if_neg (n_ne 8 8 h8 (by omega))]
            rw [show M_Model_becomes J (nI n) 0 _ = _ from bec_m (k := 0) (by omega) (by omega) _, Option.bind_some, show M_Model_becomes _ (nI n) 1 _ = _ from bec_m (k := 1) (by omega) (by omega) _, Option.bind_some, show M_Model_becomes _ (nI n) 2 _ = _ from bec_m (k := 2) (by omega) (by omega) _, Option.bind_some, show M_Model_becomes _ (nI n) 3 _ = _ from bec_m (k := 3) (by omega) (by omega) _, Option.bind_some, show M_Model_becomes _ (nI n) 4 _ = _ from bec_m (k := 4) (by omega) (by omega) _, Option.bind_some, show M_Model_becomes _ (nI n) 5 _ = _ from bec_m (k := 5) (by omega) (by omega) _, Option.bind_some, show M_Model_becomes _ (nI n) 6 _ = _ from bec_m (k := 6) (by omega) (by omega) _, Option.bind_some]
            rw [xu_rn (by omega), xu_rn (by omega), xu_rn (by omega), xu_rn (by omega), xu_rn (by omega), xu_rn (by omega), xu_rn (by omega), h89, hm1, nI_1]
            have := (div10 a (by omega)).2
            rw [(div10 a (by omega)).1] at this
            rw [this]
          · generalize hK : xu (xu (xu (xu (xu (xu (xu (xu J 89 (5 + 7 * n + 0) (nI (a / 10))) 89 (5 + 7 * n + 1) (nI (a % 10))) 89 (5 + 7 * n + 2) (nI b)) 89 (5 + 7 * n + 3) (nI c)) 89 (5 + 7 * n + 4) 0) 89 (5 + 7 * n + 5) 9999) 89 (5 + 7 * n + 6) 0) 89 0 (nI (n + 1)) = K
            have k1 : ∀ r, r ≠ 89 → K r = J r := fun r hr => by rw [← hK, xu_ne hr, xu_ne hr, xu_ne hr, xu_ne hr, xu_ne hr, xu_ne hr, xu_ne hr, xu_ne hr]
            have k2 : ∀ k, k ≠ 0 → (k < 5 + 7 * n ∨ 5 + 7 * n + 7 ≤ k) → K 89 k = I 89 k := fun k hk hk' => by rw [← hK, xu_rn hk, xu_rn (by omega), xu_rn (by omega), xu_rn (by omega), xu_rn (by omega), xu_rn (by omega), xu_rn (by omega), xu_rn (by omega), h89]
            have k0 : K 89 0 = nI (n + 1) := by rw [← hK, xu_rr]
            have en : nS (K 89) = n + 1 := nS_v k0 (by omega)
            have kr : K 89 (5 + 7 * n) = nI (a / 10) ∧ K 89 (5 + 7 * n + 1) = nI (a % 10) ∧ K 89 (5 + 7 * n + 2) = nI b ∧ K 89 (5 + 7 * n + 3) = nI c ∧ K 89 (5 + 7 * n + 4) = 0 ∧ K 89 (5 + 7 * n + 5) = 9999 ∧ K 89 (5 + 7 * n + 6) = 0 := by
              refine ⟨?_, ?_, ?_, ?_, ?_, ?_, ?_⟩
              · rw [← hK, xu_rn (by omega), xu_rn (by omega), xu_rn (by omega), xu_rn (by omega), xu_rn (by omega), xu_rn (by omega), xu_rn (by omega)]; exact xu_rr
              · rw [← hK, xu_rn (by omega), xu_rn (by omega), xu_rn (by omega), xu_rn (by omega), xu_rn (by omega), xu_rn (by omega), xu_rr]
              · rw [← hK, xu_rn (by omega), xu_rn (by omega), xu_rn (by omega), xu_rn (by omega), xu_rn (by omega), xu_rr]
              · rw [← hK, xu_rn (by omega), xu_rn (by omega), xu_rn (by omega), xu_rn (by omega), xu_rr]
              · rw [← hK, xu_rn (by omega), xu_rn (by omega), xu_rn (by omega), xu_rr]
              · rw [← hK, xu_rn (by omega), xu_rn (by omega), xu_rr]
              · rw [← hK, xu_rn (by omega), xu_rr]
            have hlay := lay_T h.1 hm8 (k := a / 10) (i := n) (by omega) (by omega)
            rw [hq] at hlay
            have hst : ∀ s, s < 8 → K (hT C s) = I (hT C s) := fun s hs => by
              have hg := h.gT hs
              rw [k1 _ (st_ne hg (by decide) (by decide)), j1 _ (by have := gS_lt hg; omega) (st_ne hg (by decide) (by decide))]
            have tT : ∀ j, hT (cT (cN C (a / 10)) n q) j = if j = n then q else hT C j := fun j => rfl
            refine h.upC (B' := B + 9) ⟨Nat.le_trans hlay.1 (by omega), hlay.2⟩ rfl (fun r hr => (gS_N hr).2) ?_ ?_ ?_ ?_ ?_ ?_ ?_
            · intro r _ r2 r3 _ r5
              rw [k1 r r3, j1 r (by omega) r2]
            · rw [k1 88 (by decide), j1 88 (qn 88 (by decide)).symm (by decide)]
            · rw [k1 88 (by decide), j1 88 (qn 88 (by decide)).symm (by decide)]
            · exact fun k hk hk' => k2 k hk (by omega)
            · omega
            · exact fun k hk => by rw [k1 1 (by decide), j2 k hk]
            · refine ⟨⟨by rw [en, k0], by omega⟩, ?_, by rw [k1 1 (by decide), j3, k0]⟩
              rw [en]
              intro s hs
              by_cases es : s = n
              · subst es
                obtain ⟨v0, v1, v2, v3, v4, v5, v6⟩ := kr
                refine ⟨⟨⟨a / 10, by omega, v0⟩, ⟨a % 10, by omega, v1⟩, ⟨b, by omega, v2⟩, ⟨c, by omega, v3⟩, ⟨0, by omega, v4⟩, ⟨9999, by omega, v5⟩, ⟨0, by omega, v6⟩⟩, ?_, ?_, ?_⟩
                · rw [tT, if_pos rfl, v0]
                  have := (gS_new (C := C) (k := a / 10) (by omega) hm8).2
                  rw [hq] at this
                  exact congrArg nI this.symm
                · rw [tT, if_pos rfl, k1 q (qn 89 (by decide)), jq]; rfl
                · intro k h1 h6
                  rw [tT, if_pos rfl, k1 q (qn 89 (by decide)), jq]
                  rcases (show k = 1 ∨ k = 2 ∨ k = 3 ∨ k = 4 ∨ k = 5 ∨ k = 6 by omega) with rfl | rfl | rfl | rfl | rfl | rfl
                  · rw [v1]; rfl
                  · rw [v2]; rfl
                  · rw [v3]; rfl
                  · rw [v4]; rfl
                  · rw [v5]; rfl
                  · rw [v6]; rfl
              · obtain ⟨g1, g2, g3, g4⟩ := z1.2.1 s (by omega)
                refine ⟨g1.c (fun j hj => k2 _ (by omega) (by omega)), ?_, ?_, ?_⟩
                · rw [tT, if_neg es, k2 _ (by omega) (by omega), g2]
                  exact congrArg nI (gS_N (h.gT (s := s) (by omega))).2.symm
                · rw [tT, if_neg es, hst s (by omega)]; exact g3
                · intro k h1 h6
                  rw [tT, if_neg es, hst s (by omega), k2 _ (by omega) (by omega)]; exact g4 k h1 h6
      · simp only [if_neg hw, if_pos rfl]
        exact err2 h (k := 1) (by decide) (by decide) rfl
    · simp only [if_neg hy, if_pos rfl]
      exact err2 h (k := 1) (by decide) (by decide) rfl
  · simp only [if_neg hx, if_pos rfl]
    exact err2 h (k := 1) (by decide) (by decide) rfl
theorem xu_same {r k : Nat} {v : Int32} (h : I r k = v) : xu I r k v = I := by
  funext q j
  rw [xu_app]
  by_cases e : q = r
  · subst e
    rw [if_pos rfl]
    by_cases ej : j = k
    · subst ej; rw [if_pos rfl, h]
    · rw [if_neg ej]
  · rw [if_neg e]
theorem vcopy (q q1 : Nat) : M_VcopyFrom C I q q1 = M_Stroke_copyFrom I q q1 := by
  unfold M_VcopyFrom
  repeat' split
  all_goals rfl
theorem copy_at {q q1 : Nat} (hne : q ≠ q1) : (∀ c, c ≠ q → M_Stroke_copyFrom I q q1 c = I c) ∧ (∀ k, k < 7 → M_Stroke_copyFrom I q q1 q k = I q1 k) := by
  unfold M_Stroke_copyFrom
  simp only [lt_def]
  refine ⟨fun c hc => by rw [xu_ne hc, xu_ne hc, xu_ne hc, xu_ne hc, xu_ne hc, xu_ne hc, xu_ne hc], fun k hk => ?_⟩
  have hne' := hne.symm
  rcases (show k = 0 ∨ k = 1 ∨ k = 2 ∨ k = 3 ∨ k = 4 ∨ k = 5 ∨ k = 6 by omega) with rfl | rfl | rfl | rfl | rfl | rfl | rfl
  · rw [xu_rn (by decide), xu_rn (by decide), xu_rn (by decide), xu_rn (by decide), xu_rn (by decide), xu_rn (by decide), xu_rr]
  · rw [xu_rn (by decide), xu_rn (by decide), xu_rn (by decide), xu_rn (by decide), xu_rn (by decide), xu_rr, xu_qn hne']
  · rw [xu_rn (by decide), xu_rn (by decide), xu_rn (by decide), xu_rn (by decide), xu_rr, xu_qn hne', xu_qn hne']
  · rw [xu_rn (by decide), xu_rn (by decide), xu_rn (by decide), xu_rr, xu_qn hne', xu_qn hne', xu_qn hne']
  · rw [xu_rn (by decide), xu_rn (by decide), xu_rr, xu_qn hne', xu_qn hne', xu_qn hne', xu_qn hne']
  · rw [xu_rn (by decide), xu_rr, xu_qn hne', xu_qn hne', xu_qn hne', xu_qn hne', xu_qn hne']
  · rw [xu_rr, xu_qn hne', xu_qn hne', xu_qn hne', xu_qn hne', xu_qn hne', xu_qn hne']
/-- a stroke made anew of another kind: its parts stay -/
theorem make_c {k i : Nat} (hk : k < 7) (hi : i < 8) (hm8 : hm C < 800000) (hg : gS C (hT C i) = true) (hne : kc C (hT C i) ≠ k) : ∃ J, M_Wall_makeOfKind C I (nI i) (nI k) = some (cT (cN C k) i (107 + hm C), J) ∧ (∀ c, c ≠ 107 + hm C → J c = I c) ∧ (∀ j, j < 7 → J (107 + hm C) j = I (hT C i) j) := by
  unfold M_Wall_makeOfKind
  have h1 := gS_lt hg
  rw [nI_clamp (by omega), hg, bnd_nI hi (by omega), Bool.and_self, grd_t rfl, vkind _ (gS_k hg), if_neg (fun e => hne ((nI_eq (by have := gS_k hg; omega) (by omega)).mp e)), blank_c hk hm8, Option.bind_some]
  simp only [lt_def]
  rw [grd_t (gS_new hk hm8).1, show hT (cN C k) i = hT C i from rfl, (gS_N hg).1, Bool.and_self, grd_t rfl, grd_t rfl, vcopy]
  obtain ⟨c1, c2⟩ := copy_at (I := xu (xrow I (107 + hm C) (fun _ => 0)) (107 + hm C) 5 9999) (q := 107 + hm C) (q1 := hT C i) (by omega)
  exact ⟨_, rfl, fun c hc => by rw [c1 c hc, xu_ne hc, xr_ne hc], fun j hj => by rw [c2 j hj, xu_ne (by omega), xr_ne (by omega)]⟩
theorem make_U {k i : Nat} (hk : k < 7) (hi : i < 8) (hm8 : hm C < 800000) (hg : gS C (hU C i) = true) (hne : kc C (hU C i) ≠ k) : ∃ J, M_Wall_makeOfKind_2 C I (nI i) (nI k) = some (cU (cN C k) i (107 + hm C), J) ∧ (∀ c, c ≠ 107 + hm C → J c = I c) ∧ (∀ j, j < 7 → J (107 + hm C) j = I (hU C i) j) := by
  unfold M_Wall_makeOfKind_2
  have h1 := gS_lt hg
  rw [nI_clamp (by omega), hg, bnd_nI hi (by omega), Bool.and_self, grd_t rfl, vkind _ (gS_k hg), if_neg (fun e => hne ((nI_eq (by have := gS_k hg; omega) (by omega)).mp e)), blank_c hk hm8, Option.bind_some]
  simp only [lt_def]
  rw [grd_t (gS_new hk hm8).1, show hU (cN C k) i = hU C i from rfl, (gS_N hg).1, Bool.and_self, grd_t rfl, grd_t rfl, vcopy]
  obtain ⟨c1, c2⟩ := copy_at (I := xu (xrow I (107 + hm C) (fun _ => 0)) (107 + hm C) 5 9999) (q := 107 + hm C) (q1 := hU C i) (by omega)
  exact ⟨_, rfl, fun c hc => by rw [c1 c hc, xu_ne hc, xr_ne hc], fun j hj => by rw [c2 j hj, xu_ne (by omega), xr_ne (by omega)]⟩
theorem ok_become (h : Rel B L xs C I) (hB : B < 800000) (x y : Int32) : OK2 B L xs (M_H_become C I x y) (fun J => M_Model_become J x y) := by
  obtain ⟨z1, z2, z3, z4, z5, z6⟩ := h.za
  have n8 := h.n8
  have hm8 : hm C < 800000 := by have := h.1.1; omega
  unfold M_H_become M_Model_become
  simp only [bsome, lt_def, within_eq, in_nat y (a := 0) (b := 69) (by decide) (by decide)]
  rcases ix_case x (nS (I 89)) (by omega) with ⟨s, hs, rfl⟩ | hx
  · rw [hasS_y (st_nI h) (by omega) hs, if_neg one0, nI_clamp (by omega)]
    obtain ⟨hws, r1, r2, r3⟩ := z1.2.1 s hs
    have hg := h.gT (s := s) (by omega)
    have hS : ∀ J : HI, J 89 = I 89 → M_Model_isStroke J (nI s) = 1 := fun J hJ => isS_y (n := nS (I 89)) (by rw [hJ]; exact mS_nI h) (by omega) hs
    by_cases hy : ((0 : Nat) : Int) ≤ y.toInt ∧ y.toInt ≤ ((69 : Nat) : Int)
    · have hy' : 0 ≤ y.toInt ∧ y.toInt ≤ (69 : Int32).toInt := hy
      simp only [if_pos hy, if_pos hy', if_neg one0]
      obtain ⟨a, ha, rfl⟩ : ∃ a : Nat, (a ≤ 69) ∧ y = nI a := ⟨y.toInt.toNat, by omega, i_nI (by omega)⟩
      rw [(div10 a (by omega)).1]
      have d2 : nI a - nI (a / 10) * 10 = nI (a % 10) := by
        have := (div10 a (by omega)).2
        rwa [(div10 a (by omega)).1] at this
      rw [hg, bnd_nI (by omega) (by omega), Bool.and_self, grd_t rfl, d2, vkind _ (gS_k hg)]
      have mm : ∀ J : HI, J 89 = I 89 → (if M_Model_isStroke J (nI s) = 0 then M_Model_finds J 1 else (M_Model_of J (nI s) 0).bind fun p5 => (M_Model_becomes J (nI s) 0 (nI (a / 10))).bind fun p6 => (M_Model_becomes p6 (nI s) 1 (nI (a % 10))).bind fun p7 => some (p5, p7)) = some (nI (kc C (hT C s)), xu (xu J 89 (5 + 7 * s + 0) (nI (a / 10))) 89 (5 + 7 * s + 1) (nI (a % 10))) := by
        intro J hJ
        rw [hS J hJ, if_neg one0, show M_Model_of J (nI s) 0 = _ from of_m (k := 0) (by omega) (by omega), Option.bind_some, show M_Model_becomes J (nI s) 0 _ = _ from bec_m (k := 0) (by omega) (by omega) _, Option.bind_some, show M_Model_becomes _ (nI s) 1 _ = _ from bec_m (k := 1) (by omega) (by omega) _, Option.bind_some, hJ, show I 89 (5 + 7 * s + 0) = _ from r1]
      by_cases hk : kc C (hT C s) = a / 10
      · have hmk : M_Wall_makeOfKind C I (nI s) (nI (a / 10)) = some (C, I) := by
          unfold M_Wall_makeOfKind
          rw [nI_clamp (by omega), hg, bnd_nI (by omega) (by omega), Bool.and_self, grd_t rfl, vkind _ (gS_k hg), if_pos (by rw [hk])]
        rw [hmk, Option.bind_some]
        simp only []
        rw [hg, Bool.and_self, grd_t rfl]
        have hJ : xu I (hT C s) 1 (nI (a % 10)) 89 = I 89 := xu_ne (st_ne hg (by decide) (by decide)).symm
        refine ⟨nI (kc C (hT C s)), C, _, xu (xu I (hT C s) 1 (nI (a % 10))) 89 (5 + 7 * s + 1) (nI (a % 10)), rfl, ?_, ?_⟩
        · have := mm _ hJ
          rw [xu_same (I := xu I (hT C s) 1 (nI (a % 10))) (r := 89) (k := 5 + 7 * s + 0) (v := nI (a / 10)) (by rw [hJ]; exact r1.trans (by rw [hk]))] at this
          exact this
        · exact (part_rel h hs (by omega) (by omega) ⟨fun _ => ⟨a % 10, by omega, rfl⟩, fun e => by omega, fun e => by omega, fun e => by omega, fun e => by omega, fun e => by omega⟩).mono (by omega)
      · obtain ⟨M, m1, m2, m3⟩ := make_c (I := I) (k := a / 10) (i := s) (by omega) (by omega) hm8 hg hk
        rw [m1, Option.bind_some]
        simp only []
        have tT : ∀ j, hT (cT (cN C (a / 10)) s (107 + hm C)) j = if j = s then 107 + hm C else hT C j := fun j => rfl
        rw [tT, if_pos rfl, show gS (cT (cN C (a / 10)) s (107 + hm C)) (107 + hm C) = true from (gS_new (by omega) hm8).1, Bool.and_self, grd_t rfl]
        have hlay := lay_T h.1 hm8 (k := a / 10) (i := s) (by omega) (by omega)
        generalize hq : 107 + hm C = q at *
        have qn : ∀ r, r < 107 → q ≠ r := fun r hr => by omega
        have hJ : xu M q 1 (nI (a % 10)) 89 = I 89 := by rw [xu_ne (qn 89 (by decide)).symm, m2 _ (qn 89 (by decide)).symm]
        refine ⟨nI (kc C (hT C s)), cT (cN C (a / 10)) s q, xu M q 1 (nI (a % 10)), _, rfl, mm _ hJ, ?_⟩
        generalize hK : xu (xu (xu M q 1 (nI (a % 10))) 89 (5 + 7 * s + 0) (nI (a / 10))) 89 (5 + 7 * s + 1) (nI (a % 10)) = K
        have k1 : ∀ r, r ≠ 89 → r ≠ q → K r = I r := fun r h1 h2 => by rw [← hK, xu_ne h1, xu_ne h1, xu_ne h2, m2 r h2]
        have k2 : ∀ k, k ≠ 5 + 7 * s → k ≠ 5 + 7 * s + 1 → K 89 k = I 89 k := fun k h1 h2 => by rw [← hK, xu_rn h2, xu_rn (by omega), hJ]
        have kr0 : K 89 (5 + 7 * s) = nI (a / 10) := by rw [← hK, xu_rn (by omega)]; exact xu_rr
        have kr1 : K 89 (5 + 7 * s + 1) = nI (a % 10) := by rw [← hK, xu_rr]
        have kq : ∀ k, k < 7 → K q k = if k = 1 then nI (a % 10) else I (hT C s) k := fun k hk => by
          rw [← hK, xu_qn (qn 89 (by decide)), xu_qn (qn 89 (by decide)), xu_app, if_pos rfl, m3 k hk]
        have n0 := nS_c (k2 0 (by omega) (by omega))
        refine h.upC (B' := B + 9) ⟨Nat.le_trans hlay.1 (by omega), hlay.2⟩ rfl (fun r hr => (gS_N hr).2) ?_ ?_ ?_ ?_ ?_ ?_ ?_
        · intro r _ _ r3 _ r5
          exact k1 r r3 (by omega)
        · rw [k1 88 (by decide) (qn 88 (by decide)).symm]
        · rw [k1 88 (by decide) (qn 88 (by decide)).symm]
        · exact fun k hk hk' => k2 k (by omega) (by omega)
        · omega
        · exact fun k hk => by rw [k1 1 (by decide) (qn 1 (by decide)).symm]
        · refine ⟨⟨by rw [n0, k2 0 (by omega) (by omega)]; exact z1.1.1, by omega⟩, ?_, by rw [k1 1 (by decide) (qn 1 (by decide)).symm, k2 0 (by omega) (by omega)]; exact z1.2.2⟩
          rw [n0]
          intro t ht
          by_cases et : t = s
          · subst et
            obtain ⟨w1, w2, w3, w4, w5, w6, w7⟩ := hws
            refine ⟨⟨⟨a / 10, by omega, kr0⟩, ⟨a % 10, by omega, kr1⟩, ?_, ?_, ?_, ?_, ?_⟩, ?_, ?_, ?_⟩
            · rw [k2 _ (by omega) (by omega)]; exact w3
            · rw [k2 _ (by omega) (by omega)]; exact w4
            · rw [k2 _ (by omega) (by omega)]; exact w5
            · rw [k2 _ (by omega) (by omega)]; exact w6
            · rw [k2 _ (by omega) (by omega)]; exact w7
            · rw [tT, if_pos rfl, kr0]
              have := (gS_new (C := C) (k := a / 10) (by omega) hm8).2
              rw [hq] at this
              exact congrArg nI this.symm
            · rw [tT, if_pos rfl, kq 0 (by omega), if_neg (by decide)]; exact r2
            · intro k h1 h6
              rw [tT, if_pos rfl, kq k (by omega)]
              by_cases ek : k = 1
              · rw [if_pos ek, ek, kr1]
              · rw [if_neg ek, k2 _ (by omega) (by omega)]; exact r3 k h1 h6
          · obtain ⟨g1, g2, g3, g4⟩ := z1.2.1 t ht
            have hgt := h.gT (s := t) (by omega)
            have hh : K (hT C t) = I (hT C t) := k1 _ (st_ne hgt (by decide) (by decide)) (by have := gS_lt hgt; omega)
            refine ⟨g1.c (fun j hj => k2 _ (by omega) (by omega)), ?_, ?_, ?_⟩
            · rw [tT, if_neg et, k2 _ (by omega) (by omega), g2]
              exact congrArg nI (gS_N hgt).2.symm
            · rw [tT, if_neg et, hh]; exact g3
            · intro k h1 h6
              rw [tT, if_neg et, hh, k2 _ (by omega) (by omega)]; exact g4 k h1 h6
    · have hy' : ¬ (0 ≤ y.toInt ∧ y.toInt ≤ (69 : Int32).toInt) := hy
      simp only [if_neg hy, if_neg hy', if_pos rfl]
      refine err2 h (k := 1) (by decide) (by decide) ?_
      rw [hS _ e89, if_neg one0]; rfl
  · rw [hasS_n (st_nI h) (by omega) hx, if_pos rfl]
    refine err2 h (k := 1) (by decide) (by decide) ?_
    show (if M_Model_isStroke _ x = 0 then _ else _) = _
    rw [isS_n (n := nS (I 89)) (by rw [e89]; exact mS_nI h) (by omega) hx, if_pos rfl]; rfl
end RN
