section RO
variable {B B' L : Nat} {xs : Nat → Int32} {C C' : HC} {I J K : HI} {D : Nat → Int32}
theorem Rel.mono (h : Rel B L xs C I) (hB : B ≤ B') : Rel B' L xs C I := ⟨⟨Nat.le_trans h.1.1 hB, h.1.2⟩, h.2⟩
/-- only strokes change; they may stand at new cells -/
theorem Rel.upC (h : Rel B L xs C I) (hL' : Lay B' L C') (hu' : hU C' = hU C) (hk' : ∀ q, gS C q = true → kc C' q = kc C q) (ec : ∀ c, c ∉ SCR → c ≠ 1 → c ≠ 89 → (∀ s, s < 8 → c ≠ hT C s) → (c < 107 + hm C ∨ 1000000 ≤ c) → K c = I c) (h2 : K 88 2 = I 88 2) (h21 : K 88 21 = I 88 21) (e : ∀ k, k ≠ 0 → (k < 5 ∨ 61 ≤ k) → K 89 k = I 89 k) (hn : nS (I 89) ≤ nS (K 89)) (e1 : ∀ k, k ≠ 1 → K 1 k = I 1 k) (hZ : ZS C' (hT C') K 1 (K 89)) : Rel B' L xs C' K := by
  obtain ⟨z1, z2, z3, z4, z5, z6⟩ := h.za
  obtain ⟨r1, r2, r3, r4, r5, r6, r7, r8, r9, r10⟩ := h
  have hc : ∀ c, c < 107 → c ∉ SCR → c ≠ 1 → c ≠ 89 → ¬ (xtab c).1 < 7 → K c = I c := fun c h0 h1 h3 h4 h5 => ec c h1 h3 h4 (fun s hs e => st_ne (r1.2.2.1 s hs).1 h0 h5 e.symm) (Or.inl (by omega))
  have hg : ∀ c, (c = 1000000 ∨ c = 1000001) → K c = I c := fun c h0 => ec c (by rcases h0 with rfl | rfl <;> decide) (by omega) (by omega) (fun s hs e => by
    have h7 := gS_k (r1.2.2.1 s hs).1
    rw [← e] at h7
    rcases h0 with rfl | rfl
    · exact absurd (show (13 : Nat) < 7 from h7) (by decide)
    · exact absurd (show (13 : Nat) < 7 from h7) (by decide)) (Or.inr (by omega))
  have hu : ∀ s, s < 8 → K (hU C s) = I (hU C s) := fun s hs => ec _ (st_scr (r1.2.2.1 s hs).2) (st_ne (r1.2.2.1 s hs).2 (by decide) (by decide)) (st_ne (r1.2.2.1 s hs).2 (by decide) (by decide)) (fun j hj e => r1.2.2.2.2.2 j s hj hs e.symm) (Or.inl (gS_lt (r1.2.2.1 s hs).2))
  have hd : ∀ c, c ∈ [0, 11, 12, 13, 14, 31, 86, 87, 90, 91, 102, 84, 103, 85, 104, 105, 80, 81, 82, 83] → K c = I c := fun c hm => by
    have : ∀ c, c ∈ [0, 11, 12, 13, 14, 31, 86, 87, 90, 91, 102, 84, 103, 85, 104, 105, 80, 81, 82, 83] → c < 107 ∧ c ∉ SCR ∧ c ≠ 1 ∧ c ≠ 89 ∧ ¬ (xtab c).1 < 7 := by decide
    obtain ⟨a1, a2, a3, a4, a5⟩ := this c hm
    exact hc c a1 a2 a3 a4 a5
  have hZA : ZA C' (hT C') K 1 (K 89) := by
    refine ⟨hZ, ?_, ?_, ?_, ?_, ?_⟩
    · exact z2.c hn (e _ (by decide) (by decide)) (fun k _ _ => e _ (by omega) (by omega)) (e1 _ (by decide)) (hd _ (by decide)) (hd _ (by decide)) (hd _ (by decide))
    · exact z3.c (e _ (by decide) (by decide)) (fun k _ _ => e _ (by omega) (by omega)) (e1 _ (by decide)) (hd _ (by decide))
    · exact z4.c (e _ (by decide) (by decide)) (fun k _ _ => e _ (by omega) (by omega)) (e1 _ (by decide)) (hd _ (by decide))
    · refine z5.c (fun k _ _ => e _ (by omega) (by omega)) (fun k _ _ => e _ (by omega) (by omega)) (fun c hm => ?_)
      have : ∀ c, c ∈ [1 + 15, 1 + 15 + 1, 1 + 15 + 2, 1 + 20, 1 + 20 + 1, 1 + 20 + 2] → c < 107 ∧ c ∉ SCR ∧ c ≠ 1 ∧ c ≠ 89 ∧ ¬ (xtab c).1 < 7 := by decide
      obtain ⟨a1, a2, a3, a4, a5⟩ := this c hm
      exact hc c a1 a2 a3 a4 a5
    · rw [e _ (by decide) (by decide), e1 _ (by decide)]; exact z6
  refine ⟨hL', (ZA_iff.mp hZA).1, (ZA_iff.mp hZA).2, by rw [hd 0 (by decide), h2]; exact r4, fun hne => ?_, fun k hk => by rw [hd 87 (by decide), hd 91 (by decide)]; exact r6 k hk, ?_, ?_, ?_, by rw [hg _ (Or.inl rfl)]; exact r10⟩
  · obtain ⟨g1, g2⟩ := r5 (by rw [← h2]; exact hne)
    rw [hd 90 (by decide), hu']
    refine ⟨g1, ?_⟩
    have g3 := g2.fr (J := K) (fun c hm => by
      have h1 : ∀ c, c ∈ wcs 32 → c < 107 ∧ c ∉ SCR ∧ c ≠ 1 ∧ c ≠ 89 ∧ ¬ (xtab c).1 < 7 := by decide
      obtain ⟨a1, a2, a3, a4, a5⟩ := h1 c hm
      exact hc c a1 a2 a3 a4 a5) (fun s hs => hu s (by have := g1.1.2; omega))
    obtain ⟨f1, f2, f3⟩ := g3
    refine ⟨f1, fun s hs => ?_, f3⟩
    obtain ⟨p1, p2⟩ := f2 s hs
    exact ⟨by rw [hk' _ (r1.2.2.1 s (by have := g1.1.2; omega)).2]; exact p1, p2⟩
  · obtain ⟨t, t1, t2, t3, t4⟩ := r7
    exact ⟨t, t1, by rw [hd 86 (by decide)]; exact t2, by rw [h21]; exact t3, fun j hj => by rw [hd 86 (by decide), hd 102 (by decide)]; exact t4 j hj⟩
  · intro s hs
    rw [hd 84 (by decide), hd 103 (by decide), hd 85 (by decide), hd 104 (by decide), hd 105 (by decide)]
    rw [show K (80 + s) = I (80 + s) by rcases (show s = 0 ∨ s = 1 ∨ s = 2 ∨ s = 3 by omega) with rfl | rfl | rfl | rfl <;> exact hd _ (by decide)]
    exact r8 s hs
  · unfold MP
    rw [hg _ (Or.inr rfl)]
    exact r9
theorem visOf_t : ∀ k, k < 7 → ∀ a, a < 7 → (if k = 0 then M_Stroke_isOf 0 (nI a) else if k = 1 then M_Red_isOf 0 (nI a) else if k = 2 then M_Black_isOf 0 (nI a) else if k = 3 then M_Scratch_isOf 0 (nI a) else if k = 4 then M_Child_isOf 0 (nI a) else if k = 5 then M_Soot_isOf 0 (nI a) else M_Forged_isOf 0 (nI a)) = if nI a = 0 ∨ nI a = nI k ∨ nI a = M_Model_above (nI k) then 1 else 0 := by decide +kernel
theorem visOf_v (q : Nat) {a : Nat} (hk : kc C q < 7) (ha : a ≤ 6) : M_VisOf C q (nI a) = if nI a = 0 ∨ nI a = nI (kc C q) ∨ nI a = M_Model_above (nI (kc C q)) then 1 else 0 := by
  have := visOf_t (kc C q) hk a (by omega)
  exact this
theorem ok_as (h : Rel B L xs C I) (x y : Int32) : OK1 B L xs C (M_H_as C I x y) (fun J => M_Model_as J x y) := by
  obtain ⟨z1, z2, z3, z4, z5, z6⟩ := h.za
  have n8 := h.n8
  unfold M_H_as M_Model_as
  simp only [bsome, in_nat y (a := 0) (b := 6) (by decide) (by decide), within_eq]
  rcases ix_case x (nS (I 89)) (by omega) with ⟨s, hs, rfl⟩ | hx
  · rw [hasS_y (st_nI h) (by omega) hs, if_neg one0, nI_clamp (by omega)]
    obtain ⟨hws, r1, r2, r3⟩ := z1.2.1 s hs
    have hg := h.gT (s := s) (by omega)
    have hS : ∀ J : HI, J 89 = I 89 → M_Model_isStroke J (nI s) = 1 := fun J hJ => isS_y (n := nS (I 89)) (by rw [hJ]; exact mS_nI h) (by omega) hs
    have hb : (bnd (nI s) 8 && gS C (hT C s)) = true := by rw [hg, bnd_nI (by omega) (by omega)]; rfl
    simp only [grd_t hb]
    by_cases hy : ((0 : Nat) : Int) ≤ y.toInt ∧ y.toInt ≤ ((6 : Nat) : Int)
    · have hy' : 0 ≤ y.toInt ∧ y.toInt ≤ (6 : Int32).toInt := hy
      simp only [if_pos hy, if_pos hy', if_neg one0]
      obtain ⟨a, ha, rfl⟩ : ∃ a : Nat, (a ≤ 6) ∧ y = nI a := ⟨y.toInt.toNat, by omega, i_nI (by omega)⟩
      have hk7 := gS_k hg
      have hm : ∀ J : HI, J 89 = I 89 → (if M_Model_isStroke J (nI s) = 0 then M_Model_finds J 1 else (M_Model_of J (nI s) 0).bind fun p5 => if nI a = 0 then (M_Model_of J (nI s) 1).bind fun p7 => some (p7, J) else if nI a = p5 then (M_Model_of J (nI s) 1).bind fun p9 => some (p9, J) else if nI a = M_Model_above p5 then (M_Model_of J (nI s) 1).bind fun p11 => some (p11, J) else M_Model_finds J 5) = if M_VisOf C (hT C s) (nI a) = 0 then M_Model_finds J 5 else some (I 89 (5 + 7 * s + 1), J) := by
        intro J hJ
        rw [hS J hJ, if_neg one0, show M_Model_of J (nI s) 0 = _ from of_m (k := 0) (by omega) (by omega), Option.bind_some, show M_Model_of J (nI s) 1 = _ from of_m (k := 1) (by omega) (by omega), Option.bind_some, hJ, show I 89 (5 + 7 * s + 0) = _ from r1]
        rw [visOf_v _ hk7 ha]
        by_cases v1 : nI a = 0
        · rw [if_pos v1, if_pos (Or.inl v1), if_neg one0]
        · rw [if_neg v1]
          by_cases v2 : nI a = nI (kc C (hT C s))
          · rw [if_pos v2, if_pos (Or.inr (Or.inl v2)), if_neg one0]
          · rw [if_neg v2]
            by_cases v3 : nI a = M_Model_above (nI (kc C (hT C s)))
            · rw [if_pos v3, if_pos (Or.inr (Or.inr v3)), if_neg one0]
            · rw [if_neg v3, if_neg (show ¬ (nI a = 0 ∨ nI a = nI (kc C (hT C s)) ∨ nI a = M_Model_above (nI (kc C (hT C s)))) from fun e => e.elim v1 (fun e => e.elim v2 v3)), if_pos rfl]
      by_cases hv : M_VisOf C (hT C s) (nI a) = 0
      · rw [if_pos hv]
        refine err_ok0 5 (by decide) (by decide) h rfl ?_
        have := hm _ (e89 (I := I) (k := 5) (v := I 87 5 + 1))
        rw [if_pos hv] at this
        exact this
      · rw [if_neg hv]
        refine ok_same h (v := I 89 (5 + 7 * s + 1)) (by rw [r3 1 (by decide) (by decide)]) ?_
        have := hm I rfl
        rw [if_neg hv] at this
        exact this
    · have hy' : ¬ (0 ≤ y.toInt ∧ y.toInt ≤ (6 : Int32).toInt) := hy
      simp only [if_neg hy, if_neg hy', if_pos rfl]
      refine err_ok0 1 (by decide) (by decide) h rfl ?_
      rw [hS _ e89, if_neg one0]; rfl
  · refine err_ok0 1 (by decide) (by decide) h ?_ ?_
    · rw [hasS_n (st_nI h) (by omega) hx, if_pos rfl]; rfl
    · show (if M_Model_isStroke _ x = 0 then _ else _) = _
      rw [isS_n (n := nS (I 89)) (by rw [e89]; exact mS_nI h) (by omega) hx, if_pos rfl]; rfl
theorem bec_m {s k : Nat} (hs : s < 8) (hk : k < 7) (v : Int32) : M_Model_becomes I (nI s) (nI k) v = some (xu I 89 (5 + 7 * s + k) v) := by
  unfold M_Model_becomes
  have e : (5 : Int32) + (7 : Int32) * nI s + nI k = nI (5 + 7 * s + k) := by
    rw [show (5 : Int32) = nI 5 from rfl, show (7 : Int32) = nI 7 from rfl, pk_mul, nI_add, nI_add]
  rw [e, grd_t (bnd_nI (by omega) (by omega)), nI_clamp (by omega)]
  rfl
theorem vsetPart (q : Nat) (x v : Int32) : M_VsetPart C I q x v = M_Stroke_setPart I q x v := by
  unfold M_VsetPart
  repeat' split
  all_goals rfl
/-- a stroke's number k becomes v, on both sides -/
theorem part_rel (h : Rel B L xs C I) {s k : Nat} (hs : s < nS (I 89)) (hk : 1 ≤ k) (hk' : k ≤ 6) {v : Int32} (hv : (k = 1 → rg v 9) ∧ (k = 2 → rg v 35) ∧ (k = 3 → rg v 99) ∧ (k = 4 → rg v 9999) ∧ (k = 5 → rg v 9999) ∧ (k = 6 → rg v 99)) : Rel B L xs C (xu (xu I (hT C s) k v) 89 (5 + 7 * s + k) v) := by
  obtain ⟨z1, z2, z3, z4, z5, z6⟩ := h.za
  have n8 := h.n8
  have hg := h.gT (s := s) (by omega)
  have q89 : hT C s ≠ 89 := st_ne hg (by decide) (by decide)
  have q1 : hT C s ≠ 1 := st_ne hg (by decide) (by decide)
  have q88 : hT C s ≠ 88 := st_ne hg (by decide) (by decide)
  have e : ∀ j, j ≠ 5 + 7 * s + k → xu (xu I (hT C s) k v) 89 (5 + 7 * s + k) v 89 j = I 89 j := fun j hj => by rw [xu_rn hj, xu_qn q89.symm]
  have ec : ∀ c, c ≠ hT C s → c ≠ 89 → xu (xu I (hT C s) k v) 89 (5 + 7 * s + k) v c = I c := fun c c1 c2 => by rw [xu_ne c2, xu_ne c1]
  have n0 := nS_c (e 0 (by omega))
  refine h.upC (B' := B) (C' := C) h.1 rfl (fun _ _ => rfl) (fun c _ _ c3 c4 _ => ec c (c4 s (by omega)) c3) (by rw [ec 88 q88.symm (by decide)]) (by rw [ec 88 q88.symm (by decide)]) (fun j _ hj => e j (by omega)) (by omega) (fun j _ => by rw [ec 1 q1.symm (by decide)]) ?_
  refine ⟨by rw [n0, e 0 (by omega)]; exact z1.1, fun t ht => ?_, by rw [ec 1 q1.symm (by decide), e 0 (by omega)]; exact z1.2.2⟩
  rw [n0] at ht
  obtain ⟨g1, g2, g3, g4⟩ := z1.2.1 t ht
  by_cases et : t = s
  · subst et
    refine ⟨?_, ?_, ?_, ?_⟩
    · obtain ⟨w1, w2, w3, w4, w5, w6, w7⟩ := g1
      have sel : ∀ j N, 1 ≤ j → (k = j → rg v N) → rg (I 89 (5 + 7 * t + j)) N → rg (xu (xu I (hT C t) k v) 89 (5 + 7 * t + k) v 89 (5 + 7 * t + j)) N := by
        intro j N _ a1 a2
        by_cases ej : j = k
        · subst ej; rw [xu_rr]; exact a1 rfl
        · rw [e _ (by omega)]; exact a2
      refine ⟨by rw [e _ (by omega)]; exact w1, sel 1 9 (by omega) hv.1 w2, sel 2 35 (by omega) hv.2.1 w3, sel 3 99 (by omega) hv.2.2.1 w4, sel 4 9999 (by omega) hv.2.2.2.1 w5, sel 5 9999 (by omega) hv.2.2.2.2.1 w6, sel 6 99 (by omega) hv.2.2.2.2.2 w7⟩
    · rw [e _ (by omega)]; exact g2
    · rw [xu_qn q89, xu_rn (by omega)]; exact g3
    · intro j h1 h6
      by_cases ej : j = k
      · subst ej; rw [xu_rr, xu_qn q89, xu_rr]
      · rw [xu_qn q89, xu_rn ej, e _ (by omega)]; exact g4 j h1 h6
  · have hne : hT C t ≠ hT C s := fun e => et (h.1.2.2.2.1 t s (by omega) (by omega) e)
    refine ⟨g1.c (fun j hj => e _ (by omega)), ?_⟩
    refine (⟨?_, ?_, ?_⟩ : rS _ _ _ _ _)
    · rw [e _ (by omega)]; exact g2
    · rw [ec _ hne (st_ne (h.gT (s := t) (by omega)) (by decide) (by decide))]; exact g3
    · intro j h1 h6
      rw [ec _ hne (st_ne (h.gT (s := t) (by omega)) (by decide) (by decide)), e _ (by omega)]; exact g4 j h1 h6
theorem ok_change (h : Rel B L xs C I) (x y w : Int32) : OK1 B L xs C (M_H_change C I x y w) (fun J => M_Model_change J x y w) := by
  obtain ⟨z1, z2, z3, z4, z5, z6⟩ := h.za
  have n8 := h.n8
  unfold M_H_change M_Model_change
  simp only [bsome, within_eq, lt_def, vpart, vsetPart]
  rcases ix_case x (nS (I 89)) (by omega) with ⟨s, hs, rfl⟩ | hx
  · rw [hasS_y (st_nI h) (by omega) hs, if_neg one0, nI_clamp (by omega)]
    obtain ⟨hws, r1, r2, r3⟩ := z1.2.1 s hs
    have hg := h.gT (s := s) (by omega)
    have hS : ∀ J : HI, J 89 = I 89 → M_Model_isStroke J (nI s) = 1 := fun J hJ => isS_y (n := nS (I 89)) (by rw [hJ]; exact mS_nI h) (by omega) hs
    have hb : (bnd (nI s) 8 && gS C (hT C s)) = true := by rw [hg, bnd_nI (by omega) (by omega)]; rfl
    simp only [grd_t hb]
    have hi : ∀ m : Int32, M_Model_in w.toInt64 (Int64.ofNat 0) m.toInt64 = if 0 ≤ w.toInt ∧ w.toInt ≤ m.toInt then 1 else 0 := fun m => in_int w (a := 0) (by decide)
    simp only [hi]
    have er : ∀ (h' : Option (Int32 × HI)), h' = M_H_error I 1 → ¬ (0 ≤ w.toInt ∧ w.toInt ≤ (M_Model_mostOf y).toInt) → OK1 B L xs C h' (fun J => if M_Model_isStroke J (nI s) = 0 then M_Model_finds J 1 else if (if 0 ≤ w.toInt ∧ w.toInt ≤ (M_Model_mostOf y).toInt then (1 : Int32) else 0) = 0 then M_Model_finds J 1 else (M_Model_of J (nI s) y).bind fun p5 => (M_Model_becomes J (nI s) y w).bind fun p6 => some (p5, p6)) := by
      intro h' hh hn
      refine err_ok0 1 (by decide) (by decide) h hh ?_
      show (if M_Model_isStroke _ _ = 0 then _ else _) = _
      rw [hS _ e89, if_neg one0, if_neg hn, if_pos rfl]; rfl
    have m1 : ¬ (0 ≤ w.toInt ∧ w.toInt ≤ (-1 : Int32).toInt) := by
      have : (-1 : Int32).toInt = -1 := rfl
      omega
    by_cases hy : 0 ≤ y.toInt ∧ y.toInt < 7
    · obtain ⟨a, ha, rfl⟩ : ∃ a : Nat, (a < 7) ∧ y = nI a := ⟨y.toInt.toNat, by omega, i_nI (by omega)⟩
      rw [if_neg (nI_pos (by omega)), if_neg (c_nle 7 7 ha), grd_t (bnd_nI ha (by omega)), nI_clamp (by omega)]
      obtain ⟨p0, p1, p2, p3, p4, p5, p6⟩ := h.2.2.2.2.2.2.2.2.1
      have hmo : I 1000001 a = M_Model_mostOf (nI a) := by
        rcases (show a = 0 ∨ a = 1 ∨ a = 2 ∨ a = 3 ∨ a = 4 ∨ a = 5 ∨ a = 6 by omega) with rfl | rfl | rfl | rfl | rfl | rfl | rfl
        · rw [p0]; rfl
        · rw [p1]; rfl
        · rw [p2]; rfl
        · rw [p3]; rfl
        · rw [p4]; rfl
        · rw [p5]; rfl
        · rw [p6]; rfl
      rw [hmo]
      by_cases hw : 0 ≤ w.toInt ∧ w.toInt ≤ (M_Model_mostOf (nI a)).toInt
      · simp only [if_pos hw, if_neg one0]
        have ha2 : 2 ≤ a := by
          rcases (show a = 0 ∨ a = 1 ∨ 2 ≤ a by omega) with rfl | rfl | h2
          · exact absurd hw m1
          · exact absurd hw m1
          · exact h2
        have rgv : ∀ N : Nat, N < 2 ^ 31 → (M_Model_mostOf (nI a)).toInt = N → rg w N := fun N hN e => (rg_iff hN).mpr (by rw [← e]; exact hw)
        refine ⟨I 89 (5 + 7 * s + a), xu I (hT C s) a w, xu (xu I (hT C s) a w) 89 (5 + 7 * s + a) w, ?_, ?_, part_rel h hs (by omega) (by omega) ⟨fun e => by omega, fun e => rgv 35 (by decide) (by rw [e]; rfl), fun e => rgv 99 (by decide) (by rw [e]; rfl), fun e => rgv 9999 (by decide) (by rw [e]; rfl), fun e => rgv 9999 (by decide) (by rw [e]; rfl), fun e => rgv 99 (by decide) (by rw [e]; rfl)⟩⟩
        · rw [← r3 a (by omega) (by omega)]
          rcases (show a = 2 ∨ a = 3 ∨ a = 4 ∨ a = 5 ∨ a = 6 by omega) with rfl | rfl | rfl | rfl | rfl <;> rfl
        · have hJ : xu I (hT C s) a w 89 = I 89 := xu_ne (st_ne hg (by decide) (by decide)).symm
          show (if M_Model_isStroke _ _ = 0 then _ else _) = _
          rw [hS _ hJ, if_neg one0, of_m (by omega) ha, Option.bind_some, bec_m (by omega) ha, Option.bind_some, hJ]
      · simp only [if_neg hw, if_pos rfl]
        refine err_ok0 1 (by decide) (by decide) h rfl ?_
        rw [hS _ e89, if_neg one0]; rfl
    · refine er _ ?_ ?_
      · by_cases h1 : y < 0
        · rw [if_pos h1]
        · rw [if_neg h1, if_pos]
          rw [i_lt] at h1
          rw [i_le]
          have a : (0 : Int32).toInt = 0 := rfl
          have b : (7 : Int32).toInt = 7 := rfl
          omega
      · have : M_Model_mostOf y = -1 := by
          unfold M_Model_mostOf
          have hh : ∀ k : Nat, k < 7 → ¬ y = nI k := fun k hk e => hy (by rw [e, nI_toInt (by omega)]; omega)
          rw [if_neg (show ¬ y = 2 from hh 2 (by omega)), if_neg (show ¬ y = 3 from hh 3 (by omega)), if_neg (show ¬ y = 6 from hh 6 (by omega)), if_neg (show ¬ y = 4 from hh 4 (by omega)), if_neg (show ¬ y = 5 from hh 5 (by omega))]
        rw [this]; exact m1
  · refine err_ok0 1 (by decide) (by decide) h ?_ ?_
    · rw [hasS_n (st_nI h) (by omega) hx, if_pos rfl]; rfl
    · show (if M_Model_isStroke _ x = 0 then _ else _) = _
      rw [isS_n (n := nS (I 89)) (by rw [e89]; exact mS_nI h) (by omega) hx, if_pos rfl]; rfl
end RO
