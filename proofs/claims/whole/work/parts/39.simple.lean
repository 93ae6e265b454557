/-! the walls' row changed: what stays -/
section RC
variable {D D' : Nat → Int32} {u : Nat} {I J : HI}
theorem tl_c (h : D' (97 + u) = D (97 + u)) : tl D' u = tl D u := by unfold tl; rw [h]
theorem bt_c (h : ∀ j, j < 50 → D' (119 + 50 * u + j) = D (119 + 50 * u + j)) : bt D' u = bt D u := by
  funext j
  unfold bt
  by_cases hj : j < 50
  · rw [if_pos hj, if_pos hj, h j hj]
  · rw [if_neg hj, if_neg hj]
theorem WT.c (h : WT D u) (h1 : D' (97 + u) = D (97 + u)) (h2 : ∀ j, j < 50 → D' (119 + 50 * u + j) = D (119 + 50 * u + j)) : WT D' u := by
  unfold WT at h ⊢
  rw [tl_c h1, bt_c h2, h1]
  exact h
theorem rT.c {t : Nat} (h : rT I t D u) (h1 : D' (97 + u) = D (97 + u)) (h2 : ∀ j, j < 50 → D' (119 + 50 * u + j) = D (119 + 50 * u + j)) : rT I t D' u := by
  unfold rT at h ⊢
  rw [tl_c h1, bt_c h2]
  exact h
theorem giv_c {a b c d : Int32} (h1 : D' (97 + u) = D (97 + u)) (h2 : ∀ j, j < 50 → D' (119 + 50 * u + j) = D (119 + 50 * u + j)) : giv D' u a b c d = giv D u a b c d := by
  unfold giv
  rw [tl_c h1, bt_c h2]
theorem nS_c (h : D' 0 = D 0) : nS D' = nS D := by unfold nS; rw [h]
theorem nL_c (h : D' 1 = D 1) : nL D' = nL D := by unfold nL; rw [h]
theorem nT_c (h : D' 3 = D 3) : nT D' = nT D := by unfold nT; rw [h]
theorem nW_c (h : D' 4 = D 4) : nW D' = nW D := by unfold nW; rw [h]
theorem nS_v {n : Nat} (h : D 0 = nI n) (hn : n < 2 ^ 31) : nS D = n := by unfold nS; rw [h, nI_clamp hn]
theorem nL_v {n : Nat} (h : D 1 = nI n) (hn : n < 2 ^ 31) : nL D = n := by unfold nL; rw [h, nI_clamp hn]
theorem nT_v {n : Nat} (h : D 3 = nI n) (hn : n < 2 ^ 31) : nT D = n := by unfold nT; rw [h, nI_clamp hn]
theorem nW_v {n : Nat} (h : D 4 = nI n) (hn : n < 2 ^ 31) : nW D = n := by unfold nW; rw [h, nI_clamp hn]
theorem wS.c {s : Nat} (h : wS D s) (h1 : ∀ k, k < 7 → D' (5 + 7 * s + k) = D (5 + 7 * s + k)) : wS D' s := by
  unfold wS at h ⊢
  rw [show D' (5 + 7 * s) = D (5 + 7 * s) from h1 0 (by omega), h1 1 (by omega), h1 2 (by omega), h1 3 (by omega), h1 4 (by omega), h1 5 (by omega), h1 6 (by omega)]
  exact h
theorem wL.c {l : Nat} (h : wL D l) (hn : nS D ≤ nS D') (h1 : ∀ k, k < 3 → D' (61 + 3 * l + k) = D (61 + 3 * l + k)) : wL D' l := by
  obtain ⟨u, w, a, g1, g2, g3, g4, g5, g6, g7, g8⟩ := h
  exact ⟨u, w, a, by omega, by omega, g3, g4, g5, (h1 0 (by omega)).trans g6, (h1 1 (by omega)).trans g7, (h1 2 (by omega)).trans g8⟩
theorem rS.c {C : HC} {T : Nat → Nat} {s : Nat} (h : rS C T I D s) (h1 : ∀ k, k < 7 → D' (5 + 7 * s + k) = D (5 + 7 * s + k)) : rS C T I D' s := by
  obtain ⟨a, b, c⟩ := h
  exact ⟨by rw [show D' (5 + 7 * s) = D (5 + 7 * s) from h1 0 (by omega)]; exact a, b, fun k hk hk' => by rw [h1 k (by omega)]; exact c k hk hk'⟩
end RC
section RX
variable {B L : Nat} {xs : Nat → Int32} {C : HC} {I J K : HI} {D : Nat → Int32} {T : Nat → Nat}
/-- the wall changed, and scratch -/
theorem Rel.wall (h : Rel B L xs C I) (hf : ∀ c, c ∉ SCR → c ≠ 89 → c ∉ wcs 1 → (∀ s, s < 8 → c ≠ hT C s) → K c = I c) (h2 : K 88 2 = I 88 2) (h21 : K 88 21 = I 88 21) (hD : WD (K 89)) (hR : RW C (hT C) K 1 (K 89)) : Rel B L xs C K := by
  obtain ⟨r1, r2, r3, r4, r5, r6, r7, r8, r9, r10⟩ := h
  have hc : ∀ c, c < 107 → c ∉ SCR → c ≠ 89 → c ∉ wcs 1 → ¬ (xtab c).1 < 7 → K c = I c := fun c h0 h1 h3 h4 h5 => hf c h1 h3 h4 (fun s hs e => st_ne (r1.2.2.1 s hs).1 h0 h5 e.symm)
  have hg : ∀ c, (c = 1000000 ∨ c = 1000001) → K c = I c := fun c h0 => hf c (by rcases h0 with rfl | rfl <;> decide) (by omega) (by rcases h0 with rfl | rfl <;> decide) (fun s hs e => by
    have h7 := gS_k (r1.2.2.1 s hs).1
    rw [← e] at h7
    rcases h0 with rfl | rfl
    · exact absurd (show (13 : Nat) < 7 from h7) (by decide)
    · exact absurd (show (13 : Nat) < 7 from h7) (by decide))
  have hu : ∀ s, s < 8 → K (hU C s) = I (hU C s) := fun s hs => hf _ (st_scr (r1.2.2.1 s hs).2) (st_ne (r1.2.2.1 s hs).2 (by decide) (by decide)) (fun hm => by
    have h1 : ∀ c, c ∈ wcs 1 → c < 107 ∧ ¬ (xtab c).1 < 7 := by decide
    exact st_ne (r1.2.2.1 s hs).2 (h1 _ hm).1 (h1 _ hm).2 rfl) (fun j hj e => r1.2.2.2.2.2 j s hj hs e.symm)
  have e90 := hc 90 (by decide) (by decide) (by decide) (by decide) (by decide)
  refine ⟨r1, hD, hR, by rw [hc 0 (by decide) (by decide) (by decide) (by decide) (by decide), h2]; exact r4, fun hne => ?_, fun k hk => by rw [hc 87 (by decide) (by decide) (by decide) (by decide) (by decide), hc 91 (by decide) (by decide) (by decide) (by decide) (by decide)]; exact r6 k hk, ?_, ?_, ?_, by rw [hg _ (Or.inl rfl)]; exact r10⟩
  · obtain ⟨g1, g2⟩ := r5 (by rw [← h2]; exact hne)
    rw [e90]
    exact ⟨g1, g2.fr (fun c hm => by
      have h1 : ∀ c, c ∈ wcs 32 → c < 107 ∧ c ∉ SCR ∧ c ≠ 89 ∧ c ∉ wcs 1 ∧ ¬ (xtab c).1 < 7 := by decide
      obtain ⟨a1, a2, a3, a4, a5⟩ := h1 c hm
      exact hc c a1 a2 a3 a4 a5) (fun s hs => hu s (by have := g1.1.2; omega))⟩
  · obtain ⟨t, t1, t2, t3, t4⟩ := r7
    refine ⟨t, t1, by rw [hc 86 (by decide) (by decide) (by decide) (by decide) (by decide)]; exact t2, by rw [h21]; exact t3, fun j hj => by rw [hc 86 (by decide) (by decide) (by decide) (by decide) (by decide), hc 102 (by decide) (by decide) (by decide) (by decide) (by decide)]; exact t4 j hj⟩
  · intro s hs
    rw [hc 84 (by decide) (by decide) (by decide) (by decide) (by decide), hc 103 (by decide) (by decide) (by decide) (by decide) (by decide), hc 85 (by decide) (by decide) (by decide) (by decide) (by decide), hc 104 (by decide) (by decide) (by decide) (by decide) (by decide), hc 105 (by decide) (by decide) (by decide) (by decide) (by decide)]
    rw [show K (80 + s) = I (80 + s) by rcases (show s = 0 ∨ s = 1 ∨ s = 2 ∨ s = 3 by omega) with rfl | rfl | rfl | rfl <;> exact hc _ (by decide) (by decide) (by decide) (by decide) (by decide)]
    exact r8 s hs
  · unfold MP
    rw [hg _ (Or.inr rfl)]
    exact r9
theorem wcs_st {s c : Nat} (h : Rel B L xs C I) (hs : s < 8) (hc : c ∈ wcs 1) : hT C s ≠ c := by
  have h1 : ∀ c, c ∈ wcs 1 → c < 107 ∧ ¬ (xtab c).1 < 7 := by decide
  exact st_ne (h.1.2.2.1 s hs).1 (h1 _ hc).1 (h1 _ hc).2
/-! a wall in six parts -/
def ZS (C : HC) (T : Nat → Nat) (I : HI) (b : Nat) (D : Nat → Int32) : Prop := (D 0 = nI (nS D) ∧ nS D ≤ 8) ∧ (∀ s, s < nS D → wS D s ∧ rS C T I D s) ∧ I b 1 = D 0
def ZL (I : HI) (b : Nat) (D : Nat → Int32) : Prop := (D 1 = nI (nL D) ∧ nL D ≤ 12) ∧ (∀ l, l < nL D → wL D l ∧ I (b + 10) l = D (61 + 3 * l) ∧ I (b + 11) l = D (61 + 3 * l + 1) ∧ I (b + 12) l = D (61 + 3 * l + 2)) ∧ I b 5 = D 1
def ZT (I : HI) (b : Nat) (D : Nat → Int32) : Prop := (D 3 = nI (nT D) ∧ nT D ≤ 50) ∧ (∀ j, j < nT D → rg (D (219 + j)) 255 ∧ I (b + 13) j = D (219 + j)) ∧ I b 7 = D 3
def ZW (I : HI) (b : Nat) (D : Nat → Int32) : Prop := (D 4 = nI (nW D) ∧ nW D ≤ 20) ∧ (∀ j, j < nW D → I (b + 30) j = D (99 + j)) ∧ I b 11 = D 4
def ZX (I : HI) (b : Nat) (D : Nat → Int32) : Prop := WT D 0 ∧ WT D 1 ∧ rT I (b + 15) D 0 ∧ rT I (b + 20) D 1
def ZA (C : HC) (T : Nat → Nat) (I : HI) (b : Nat) (D : Nat → Int32) : Prop := ZS C T I b D ∧ ZL I b D ∧ ZT I b D ∧ ZW I b D ∧ ZX I b D ∧ I b 12 = D 2
theorem ZA_iff {b : Nat} : ZA C T I b D ↔ WD D ∧ RW C T I b D := by
  constructor
  · rintro ⟨⟨a1, a2, a3⟩, ⟨b1, b2, b3⟩, ⟨c1, c2, c3⟩, ⟨d1, d2, d3⟩, ⟨e1, e2, e3, e4⟩, f⟩
    exact ⟨⟨a1, b1, c1, d1, fun s hs => (a2 s hs).1, fun l hl => (b2 l hl).1, fun j hj => (c2 j hj).1, e1, e2⟩, ⟨a3, b3, c3, d3, f⟩, fun s hs => (a2 s hs).2, fun l hl => (b2 l hl).2, fun j hj => (c2 j hj).2, d2, e3, e4⟩
  · rintro ⟨⟨a1, b1, c1, d1, g1, g2, g3, g4, g5⟩, ⟨k1, k2, k3, k4, k5⟩, w2, w3, w4, w5, w6, w7⟩
    exact ⟨⟨a1, fun s hs => ⟨g1 s hs, w2 s hs⟩, k1⟩, ⟨b1, fun l hl => ⟨g2 l hl, w3 l hl⟩, k2⟩, ⟨c1, fun j hj => ⟨g3 j hj, w4 j hj⟩, k3⟩, ⟨d1, w5, k4⟩, ⟨g4, g5, w6, w7⟩, k5⟩
theorem ZS.c {b : Nat} {D' : Nat → Int32} (h : ZS C T I b D) (h0 : D' 0 = D 0) (h1 : ∀ k, 5 ≤ k → k < 61 → D' k = D k) (hb : J b 1 = I b 1) (hT : ∀ s, s < 8 → J (T s) = I (T s)) : ZS C T J b D' := by
  obtain ⟨a1, a2, a3⟩ := h
  refine ⟨by rw [nS_c h0, h0]; exact a1, fun s hs => ?_, by rw [h0, hb]; exact a3⟩
  rw [nS_c h0] at hs
  have := a1.2
  refine ⟨(a2 s hs).1.c fun k hk => h1 _ (by omega) (by omega), ?_⟩
  have h2 := (a2 s hs).2
  unfold rS at h2 ⊢
  rw [hT s (by omega), h1 _ (by omega) (by omega)]
  exact ⟨h2.1, h2.2.1, fun k hk hk' => by rw [h1 _ (by omega) (by omega)]; exact h2.2.2 k hk hk'⟩
theorem ZL.c {b : Nat} {D' : Nat → Int32} (h : ZL I b D) (hn : nS D ≤ nS D') (h0 : D' 1 = D 1) (h1 : ∀ k, 61 ≤ k → k < 97 → D' k = D k) (hb : J b 5 = I b 5) (hc : J (b + 10) = I (b + 10)) (hd : J (b + 11) = I (b + 11)) (he : J (b + 12) = I (b + 12)) : ZL J b D' := by
  obtain ⟨a1, a2, a3⟩ := h
  refine ⟨by rw [nL_c h0, h0]; exact a1, fun s hs => ?_, by rw [h0, hb]; exact a3⟩
  rw [nL_c h0] at hs
  have := a1.2
  refine ⟨(a2 s hs).1.c hn fun k hk => h1 _ (by omega) (by omega), ?_⟩
  rw [hc, hd, he, h1 _ (by omega) (by omega), h1 _ (by omega) (by omega), h1 _ (by omega) (by omega)]
  exact (a2 s hs).2
theorem ZT.c {b : Nat} {D' : Nat → Int32} (h : ZT I b D) (h0 : D' 3 = D 3) (h1 : ∀ k, 219 ≤ k → k < 269 → D' k = D k) (hb : J b 7 = I b 7) (hc : J (b + 13) = I (b + 13)) : ZT J b D' := by
  obtain ⟨a1, a2, a3⟩ := h
  refine ⟨by rw [nT_c h0, h0]; exact a1, fun s hs => ?_, by rw [h0, hb]; exact a3⟩
  rw [nT_c h0] at hs
  have := a1.2
  rw [hc, h1 _ (by omega) (by omega)]
  exact a2 s hs
theorem ZW.c {b : Nat} {D' : Nat → Int32} (h : ZW I b D) (h0 : D' 4 = D 4) (h1 : ∀ k, 99 ≤ k → k < 119 → D' k = D k) (hb : J b 11 = I b 11) (hc : J (b + 30) = I (b + 30)) : ZW J b D' := by
  obtain ⟨a1, a2, a3⟩ := h
  refine ⟨by rw [nW_c h0, h0]; exact a1, fun s hs => ?_, by rw [h0, hb]; exact a3⟩
  rw [nW_c h0] at hs
  have := a1.2
  rw [hc, h1 _ (by omega) (by omega)]
  exact a2 s hs
theorem ZX.c {b : Nat} {D' : Nat → Int32} (h : ZX I b D) (h0 : ∀ k, 97 ≤ k → k < 99 → D' k = D k) (h1 : ∀ k, 119 ≤ k → k < 219 → D' k = D k) (hb : ∀ c, c ∈ [b + 15, b + 15 + 1, b + 15 + 2, b + 20, b + 20 + 1, b + 20 + 2] → J c = I c) : ZX J b D' := by
  obtain ⟨a1, a2, a3, a4⟩ := h
  exact ⟨a1.c (h0 _ (by omega) (by omega)) (fun j hj => h1 _ (by omega) (by omega)), a2.c (h0 _ (by omega) (by omega)) (fun j hj => h1 _ (by omega) (by omega)), (a3.fr (hb _ (by simp)) (hb _ (by simp)) (hb _ (by simp))).c (h0 _ (by omega) (by omega)) (fun j hj => h1 _ (by omega) (by omega)), (a4.fr (hb _ (by simp)) (hb _ (by simp)) (hb _ (by simp))).c (h0 _ (by omega) (by omega)) (fun j hj => h1 _ (by omega) (by omega))⟩
theorem Rel.za (h : Rel B L xs C I) : ZA C (hT C) I 1 (I 89) := ZA_iff.mpr ⟨h.2.1, h.2.2.1⟩
/-- the wall changed, and scratch -/
theorem Rel.wallz (h : Rel B L xs C I) (hf : ∀ c, c ∉ SCR → c ≠ 89 → c ∉ wcs 1 → (∀ s, s < 8 → c ≠ hT C s) → K c = I c) (h2 : K 88 2 = I 88 2) (h21 : K 88 21 = I 88 21) (hZ : ZA C (hT C) K 1 (K 89)) : Rel B L xs C K := h.wall hf h2 h21 (ZA_iff.mp hZ).1 (ZA_iff.mp hZ).2
/-- two slots changed: one of the wall's cells, one of the row -/
theorem Rel.stc (h : Rel B L xs C I) {c : Nat} (hc : c < 107) (hx : ¬ (xtab c).1 < 7) {s : Nat} (hs : s < 8) : hT C s ≠ c := st_ne (h.1.2.2.1 s hs).1 hc hx
/-- seed -/
theorem ok_seed (h : Rel B L xs C I) (x : Int32) : OK1 B L xs C (some (M_H_seed I x)) (fun J => some (M_Model_seed J x)) := by
  unfold M_H_seed M_Model_seed
  simp only [lt_def]
  refine ⟨I 1 12, xu I 1 12 x, xu (xu I 1 12 x) 89 2 x, rfl, ?_, ?_⟩
  · show some (xu I 1 12 x 89 2, _) = _
    rw [xu_qn (by decide), show I 89 2 = I 1 12 from h.2.2.1.1.2.2.2.2.symm]
  · obtain ⟨z1, z2, z3, z4, z5, z6⟩ := h.za
    have e : ∀ k, k ≠ 2 → xu (xu I 1 12 x) 89 2 x 89 k = I 89 k := fun k hk => by rw [xu_rn hk, xu_qn (by decide)]
    have e1 : ∀ k, k ≠ 12 → xu (xu I 1 12 x) 89 2 x 1 k = I 1 k := fun k hk => by rw [xu_qn (by decide), xu_rn hk]
    have ec : ∀ c, c ≠ 1 → c ≠ 89 → xu (xu I 1 12 x) 89 2 x c = I c := fun c h1 h2 => by rw [xu_ne h2, xu_ne h1]
    have n0 := nS_c (e 0 (by decide))
    refine h.wallz ?_ (by rw [ec 88 (by decide) (by decide)]) (by rw [ec 88 (by decide) (by decide)]) ⟨?_, ?_, ?_, ?_, ?_, ?_⟩
    · intro c c1 c2 c3 c4
      exact ec c (by rintro rfl; exact c3 (by decide)) c2
    · exact z1.c (e _ (by decide)) (fun k _ _ => e _ (by omega)) (e1 _ (by decide)) (fun s hs => ec _ (h.stc (by decide) (by decide) hs) (h.stc (by decide) (by decide) hs))
    · exact z2.c (by omega) (e _ (by decide)) (fun k _ _ => e _ (by omega)) (e1 _ (by decide)) (ec _ (by decide) (by decide)) (ec _ (by decide) (by decide)) (ec _ (by decide) (by decide))
    · exact z3.c (e _ (by decide)) (fun k _ _ => e _ (by omega)) (e1 _ (by decide)) (ec _ (by decide) (by decide))
    · exact z4.c (e _ (by decide)) (fun k _ _ => e _ (by omega)) (e1 _ (by decide)) (ec _ (by decide) (by decide))
    · exact z5.c (fun k _ _ => e _ (by omega)) (fun k _ _ => e _ (by omega)) (fun c hc => ec c (by rintro rfl; revert hc; decide) (by rintro rfl; revert hc; decide))
    · rw [xu_qn (by decide), xu_rr, xu_rr]
end RX
