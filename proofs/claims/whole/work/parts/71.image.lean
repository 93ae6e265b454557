/-! images: the wall copied -/
section IM
variable {B B' L : Nat} {xs : Nat → Int32} {C C' C0 : HC} {I J K : HI} {D D' : Nat → Int32} {T T' : Nat → Nat} {n : Nat}
theorem WD_270 (h : WD D) (e : ∀ k, k < 270 → D' k = D k) : WD D' := by
  obtain ⟨h1, h2, h3, h4, h5, h6, h7, h8, h9⟩ := h
  have s := nS_c (e 0 (by omega))
  have l := nL_c (e 1 (by omega))
  have t := nT_c (e 3 (by omega))
  have w := nW_c (e 4 (by omega))
  refine ⟨by rw [s, e 0 (by omega)]; exact h1, by rw [l, e 1 (by omega)]; exact h2, by rw [t, e 3 (by omega)]; exact h3, by rw [w, e 4 (by omega)]; exact h4, fun k hk => ?_, fun k hk => ?_, fun k hk => ?_, ?_, ?_⟩
  · rw [s] at hk
    exact (h5 k hk).c (fun j hj => e _ (by omega))
  · rw [l] at hk
    exact (h6 k hk).c (by omega) (fun j hj => e _ (by omega))
  · rw [t] at hk
    rw [e _ (by omega)]; exact h7 k hk
  · exact h8.c (e _ (by omega)) (fun j hj => e _ (by omega))
  · exact h9.c (e _ (by omega)) (fun j hj => e _ (by omega))
theorem rT_len {t u : Nat} (h : rT I t D u) : ∃ len, len ≤ 50 ∧ I t 2 = nI len := by
  by_cases e : tl D u = 0
  · exact ⟨0, by omega, h.1 e⟩
  · obtain ⟨st, a1, a2, a3, a4, a5⟩ := h.2 e
    exact ⟨st.length, a3, a2⟩
/-- a text copied -/
def TC (I K : HI) (t t' : Nat) : Prop := K t' 2 = I t 2 ∧ ∀ len, len ≤ 50 → I t 2 = nI len → ∀ j, j < len → K (t' + 1) j = I (t + 1) j ∧ K (t' + 2) j = I (t + 2) j
theorem rT_cp {t t' u : Nat} (h : rT I t D u) (hc : TC I K t t') : rT K t' D u := by
  refine ⟨fun e => by rw [hc.1]; exact h.1 e, fun e => ?_⟩
  obtain ⟨st, a1, a2, a3, a4, a5⟩ := h.2 e
  refine ⟨st, a1, by rw [hc.1]; exact a2, a3, a4, fun j hj => ?_⟩
  obtain ⟨c1, c2⟩ := hc.2 _ a3 a2 j hj
  rw [c1, c2]; exact a5 j hj
theorem RW_cp {b b' : Nat} (h : RW C T I b D) (hD : WD D) (e : ∀ k, k < 270 → D' k = D k) (hh : K b' 1 = I b 1 ∧ K b' 5 = I b 5 ∧ K b' 7 = I b 7 ∧ K b' 11 = I b 11 ∧ K b' 12 = I b 12) (hs : ∀ s, s < nS D → kc C' (T' s) = kc C (T s) ∧ ∀ k, k < 7 → K (T' s) k = I (T s) k) (hl : ∀ l, l < nL D → K (b' + 10) l = I (b + 10) l ∧ K (b' + 11) l = I (b + 11) l ∧ K (b' + 12) l = I (b + 12) l) (ht : ∀ j, j < 50 → K (b' + 13) j = I (b + 13) j) (hw : ∀ j, j < 20 → K (b' + 30) j = I (b + 30) j) (t1 : TC I K (b + 15) (b' + 15)) (t2 : TC I K (b + 20) (b' + 20)) : RW C' T' K b' D' := by
  obtain ⟨⟨a1, a2, a3, a4, a5⟩, a6, a7, a8, a9, a10, a11⟩ := h
  have s := nS_c (e 0 (by omega))
  have l := nL_c (e 1 (by omega))
  have t := nT_c (e 3 (by omega))
  have w := nW_c (e 4 (by omega))
  have n8 := hD.1.2
  have l12 := hD.2.1.2
  have t50 := hD.2.2.1.2
  have w20 := hD.2.2.2.1.2
  refine ⟨?_, fun k hk => ?_, fun k hk => ?_, fun k hk => ?_, fun k hk => ?_, ?_, ?_⟩
  · rw [hh.1, hh.2.1, hh.2.2.1, hh.2.2.2.1, hh.2.2.2.2, e 0 (by omega), e 1 (by omega), e 2 (by omega), e 3 (by omega), e 4 (by omega)]
    exact ⟨a1, a2, a3, a4, a5⟩
  · rw [s] at hk
    obtain ⟨c1, c2, c3⟩ := a6 k hk
    obtain ⟨d1, d2⟩ := hs k hk
    refine ⟨by rw [e _ (by omega), d1]; exact c1, by rw [d2 0 (by omega)]; exact c2, fun j h1 h6 => ?_⟩
    rw [d2 j (by omega), e _ (by omega)]; exact c3 j h1 h6
  · rw [l] at hk
    obtain ⟨c1, c2, c3⟩ := a7 k hk
    obtain ⟨d1, d2, d3⟩ := hl k hk
    rw [d1, d2, d3, e _ (by omega), e _ (by omega), e _ (by omega)]
    exact ⟨c1, c2, c3⟩
  · rw [t] at hk
    rw [ht k (by omega), e _ (by omega)]; exact a8 k hk
  · rw [w] at hk
    rw [hw k (by omega), e _ (by omega)]; exact a9 k hk
  · exact (rT_cp a10 t1).c (e _ (by omega)) (fun j hj => e _ (by omega))
  · exact (rT_cp a11 t2).c (e _ (by omega)) (fun j hj => e _ (by omega))
theorem Rel.put (h : Rel B L xs C I) (hL' : Lay B' L C') (h89 : WD (K 89)) (hW : RW C' (hT C') K 1 (K 89)) (h09 : K 0 9 = K 88 2) (h90 : K 88 2 ≠ 0 → WD (K 90) ∧ RW C' (hU C') K 32 (K 90)) (ec : ∀ c, c ∈ [86, 87, 91, 102, 84, 103, 85, 104, 105, 80, 81, 82, 83, 1000000, 1000001] → K c = I c) (h21 : K 88 21 = I 88 21) : Rel B' L xs C' K := by
  obtain ⟨r1, r2, r3, r4, r5, r6, r7, r8, r9, r10⟩ := h
  refine ⟨hL', h89, hW, h09, h90, fun k hk => by rw [ec 87 (by decide), ec 91 (by decide)]; exact r6 k hk, ?_, ?_, ?_, by rw [ec 1000000 (by decide)]; exact r10⟩
  · obtain ⟨t, t1, t2, t3, t4⟩ := r7
    exact ⟨t, t1, by rw [ec 86 (by decide)]; exact t2, by rw [h21]; exact t3, fun j hj => by rw [ec 86 (by decide), ec 102 (by decide)]; exact t4 j hj⟩
  · intro s hs
    rw [ec 84 (by decide), ec 103 (by decide), ec 85 (by decide), ec 104 (by decide), ec 105 (by decide)]
    rw [show K (80 + s) = I (80 + s) by rcases (show s = 0 ∨ s = 1 ∨ s = 2 ∨ s = 3 by omega) with rfl | rfl | rfl | rfl <;> exact ec _ (by decide)]
    exact r8 s hs
  · unfold MP
    rw [ec 1000001 (by decide)]
    exact r9
/-- a text's loop -/
theorem cpT (F : Nat → Int32 → HI → Option HI) (a b : Nat) (hF : ∀ f x (I : HI), F (f + 1) x I = if (I a 2) ≤ x then (some I) else (grd (bnd x 50) (F f (x + (1 : Int32)) (xu (xu I (b + 1) x.toNatClampNeg (I (a + 1) x.toNatClampNeg)) (b + 2) x.toNatClampNeg ((xu I (b + 1) x.toNatClampNeg (I (a + 1) x.toNatClampNeg)) (a + 2) x.toNatClampNeg))))) (hab : a + 5 ≤ b ∨ b + 5 ≤ a) {len : Nat} (hl : len ≤ 50) : ∀ f i (J : HI), i ≤ len → len - i < f → J a 2 = nI len → ∃ K, F f (nI i) J = some K ∧ (∀ c, c ≠ b + 1 → c ≠ b + 2 → K c = J c) ∧ (∀ j, j < i → K (b + 1) j = J (b + 1) j ∧ K (b + 2) j = J (b + 2) j) ∧ (∀ j, i ≤ j → j < len → K (b + 1) j = J (a + 1) j ∧ K (b + 2) j = J (a + 2) j) := by
  intro f
  induction f with
  | zero => intro i J _ h; omega
  | succ f ih =>
    intro i J hi hf h2
    rw [hF, h2]
    by_cases h : len ≤ i
    · rw [if_pos (nI_le h (by omega))]
      exact ⟨J, rfl, fun _ _ _ => rfl, fun _ _ => ⟨rfl, rfl⟩, fun j _ _ => by omega⟩
    · rw [if_neg (nI_ge (by omega) (by omega)), grd_t (bnd_nI (by omega) (by omega)), nI_clamp (by omega), nI_1, xu_ne (show a + 2 ≠ b + 1 by omega)]
      obtain ⟨K, k1, k2, k3, k4⟩ := ih (i + 1) (xu (xu J (b + 1) i (J (a + 1) i)) (b + 2) i (J (a + 2) i)) (by omega) (by omega) (by rw [xu_ne (show a ≠ b + 2 by omega), xu_ne (show a ≠ b + 1 by omega)]; exact h2)
      refine ⟨K, k1, fun c c1 c2 => by rw [k2 c c1 c2, xu_ne c2, xu_ne c1], fun j hj => ?_, fun j h1 h3 => ?_⟩
      · obtain ⟨d1, d2⟩ := k3 j (by omega)
        rw [d1, d2, xu_qn (show b + 1 ≠ b + 2 by omega), xu_rn (show j ≠ i by omega), xu_rn (show j ≠ i by omega), xu_qn (show b + 2 ≠ b + 1 by omega)]
        exact ⟨rfl, rfl⟩
      · by_cases e : j = i
        · subst e
          obtain ⟨d1, d2⟩ := k3 j (by omega)
          rw [d1, d2, xu_qn (show b + 1 ≠ b + 2 by omega), xu_rr, xu_rr]
          exact ⟨rfl, rfl⟩
        · obtain ⟨d1, d2⟩ := k4 j (by omega) h3
          rw [d1, d2, xu_ne (show a + 1 ≠ b + 2 by omega), xu_ne (show a + 1 ≠ b + 1 by omega), xu_ne (show a + 2 ≠ b + 2 by omega), xu_ne (show a + 2 ≠ b + 1 by omega)]
          exact ⟨rfl, rfl⟩
/-- the looks' loop -/
theorem cpL (F : Nat → Int32 → HI → Option HI) (a b : Nat) (hF : ∀ f x (I : HI), F (f + 1) x I = if (I a 5) ≤ x then (some I) else (grd (bnd x 12) (F f (x + (1 : Int32)) (xu (xu (xu I (b + 10) x.toNatClampNeg (I (a + 10) x.toNatClampNeg)) (b + 11) x.toNatClampNeg ((xu I (b + 10) x.toNatClampNeg (I (a + 10) x.toNatClampNeg)) (a + 11) x.toNatClampNeg)) (b + 12) x.toNatClampNeg ((xu (xu I (b + 10) x.toNatClampNeg (I (a + 10) x.toNatClampNeg)) (b + 11) x.toNatClampNeg ((xu I (b + 10) x.toNatClampNeg (I (a + 10) x.toNatClampNeg)) (a + 11) x.toNatClampNeg)) (a + 12) x.toNatClampNeg))))) (hab : a + 20 ≤ b ∨ b + 20 ≤ a) {len : Nat} (hl : len ≤ 12) : ∀ f i (J : HI), i ≤ len → len - i < f → J a 5 = nI len → ∃ K, F f (nI i) J = some K ∧ (∀ c, c ≠ b + 10 → c ≠ b + 11 → c ≠ b + 12 → K c = J c) ∧ (∀ j, j < i → K (b + 10) j = J (b + 10) j ∧ K (b + 11) j = J (b + 11) j ∧ K (b + 12) j = J (b + 12) j) ∧ (∀ j, i ≤ j → j < len → K (b + 10) j = J (a + 10) j ∧ K (b + 11) j = J (a + 11) j ∧ K (b + 12) j = J (a + 12) j) := by
  intro f
  induction f with
  | zero => intro i J _ h; omega
  | succ f ih =>
    intro i J hi hf h2
    rw [hF, h2]
    by_cases h : len ≤ i
    · rw [if_pos (nI_le h (by omega))]
      exact ⟨J, rfl, fun _ _ _ _ => rfl, fun _ _ => ⟨rfl, rfl, rfl⟩, fun j _ _ => by omega⟩
    · rw [if_neg (nI_ge (by omega) (by omega)), grd_t (bnd_nI (by omega) (by omega)), nI_clamp (by omega), nI_1]
      generalize hJ' : xu (xu (xu J (b + 10) i (J (a + 10) i)) (b + 11) i ((xu J (b + 10) i (J (a + 10) i)) (a + 11) i)) (b + 12) i ((xu (xu J (b + 10) i (J (a + 10) i)) (b + 11) i ((xu J (b + 10) i (J (a + 10) i)) (a + 11) i)) (a + 12) i) = J'
      have j1 : ∀ c, c ≠ b + 10 → c ≠ b + 11 → c ≠ b + 12 → J' c = J c := fun c c1 c2 c3 => by rw [← hJ', xu_ne c3, xu_ne c2, xu_ne c1]
      have j2 : ∀ j, j ≠ i → J' (b + 10) j = J (b + 10) j ∧ J' (b + 11) j = J (b + 11) j ∧ J' (b + 12) j = J (b + 12) j := fun j hj => by
        rw [← hJ', xu_ne (show b + 10 ≠ b + 12 by omega), xu_ne (show b + 10 ≠ b + 11 by omega), xu_rn hj, xu_ne (show b + 11 ≠ b + 12 by omega), xu_rn hj, xu_ne (show b + 11 ≠ b + 10 by omega), xu_rn hj, xu_ne (show b + 12 ≠ b + 11 by omega), xu_ne (show b + 12 ≠ b + 10 by omega)]
        exact ⟨rfl, rfl, rfl⟩
      have j3 : J' (b + 10) i = J (a + 10) i ∧ J' (b + 11) i = J (a + 11) i ∧ J' (b + 12) i = J (a + 12) i := by
        rw [← hJ', xu_ne (show b + 10 ≠ b + 12 by omega), xu_ne (show b + 10 ≠ b + 11 by omega), xu_rr, xu_ne (show b + 11 ≠ b + 12 by omega), xu_rr, xu_rr, xu_ne (show a + 11 ≠ b + 10 by omega), xu_ne (show a + 12 ≠ b + 11 by omega), xu_ne (show a + 12 ≠ b + 10 by omega)]
        exact ⟨rfl, rfl, rfl⟩
      obtain ⟨K, k1, k2, k3, k4⟩ := ih (i + 1) J' (by omega) (by omega) (by rw [j1 a (by omega) (by omega) (by omega)]; exact h2)
      refine ⟨K, k1, fun c c1 c2 c3 => by rw [k2 c c1 c2 c3, j1 c c1 c2 c3], fun j hj => ?_, fun j h1 h3 => ?_⟩
      · obtain ⟨d1, d2, d3⟩ := k3 j (by omega)
        rw [d1, d2, d3]; exact j2 j (by omega)
      · by_cases e : j = i
        · subst e
          obtain ⟨d1, d2, d3⟩ := k3 j (by omega)
          rw [d1, d2, d3]; exact j3
        · obtain ⟨d1, d2, d3⟩ := k4 j (by omega) h3
          rw [d1, d2, d3, j1 (a + 10) (by omega) (by omega) (by omega), j1 (a + 11) (by omega) (by omega) (by omega), j1 (a + 12) (by omega) (by omega) (by omega)]
          exact ⟨rfl, rfl, rfl⟩
theorem lay_tu (h : Lay B L C) {i j : Nat} (hi : i < 8) (hj : j < 8) : hT C i ≠ hU C j := h.2.2.2.2.2 i j hi hj
theorem lay_ut (h : Lay B L C) {i j : Nat} (hi : i < 8) (hj : j < 8) : hU C i ≠ hT C j := fun e => h.2.2.2.2.2 j i hj hi e.symm
theorem lay_tt (h : Lay B L C) {i j : Nat} (hi : i < 8) (hj : j < 8) (e : i ≠ j) : hT C i ≠ hT C j := fun e' => e (h.2.2.2.1 i j hi hj e')
theorem lay_uu (h : Lay B L C) {i j : Nat} (hi : i < 8) (hj : j < 8) (e : i ≠ j) : hU C i ≠ hU C j := fun e' => e (h.2.2.2.2.1 i j hi hj e')
theorem lay_gT (h : Lay B L C) {i : Nat} (hi : i < 8) : gS C (hT C i) = true := (h.2.2.1 i hi).1
theorem lay_gU (h : Lay B L C) {i : Nat} (hi : i < 8) : gS C (hU C i) = true := (h.2.2.1 i hi).2
theorem lay_up {B2 : Nat} (h : Lay B L C) (hB : B ≤ B2) : Lay B2 L C := ⟨Nat.le_trans h.1 hB, h.2⟩
/-- a stroke of the right kind at a place -/
theorem mkU (h : Lay B L C) (hm8 : hm C < 800000) {i k : Nat} (hi : i < 8) (hk : k < 7) : ∃ C1 J1, M_Wall_makeOfKind_2 C J (nI i) (nI k) = some (C1, J1) ∧ Lay (B + 1) L C1 ∧ hT C1 = hT C ∧ (∀ s, s ≠ i → hU C1 s = hU C s) ∧ (∀ q, gS C q = true → gS C1 q = true ∧ kc C1 q = kc C q) ∧ kc C1 (hU C1 i) = k ∧ (∀ c, c ≠ 107 + hm C → J1 c = J c) := by
  have hg := lay_gU h hi
  by_cases e : kc C (hU C i) = k
  · refine ⟨C, J, ?_, lay_up h (by omega), rfl, fun _ _ => rfl, fun q hq => ⟨hq, rfl⟩, e, fun _ _ => rfl⟩
    unfold M_Wall_makeOfKind_2
    rw [nI_clamp (by omega), hg, bnd_nI hi (by omega), Bool.and_self, grd_t rfl, vkind _ (gS_k hg), if_pos (by rw [e])]
  · obtain ⟨J1, j1, j2, j3⟩ := make_U (I := J) hk hi hm8 hg e
    have t1 : ∀ j, hU (cU (cN C k) i (107 + hm C)) j = if j = i then 107 + hm C else hU C j := fun j => rfl
    refine ⟨_, J1, j1, lay_U h hm8 hk hi, rfl, fun s hs => by rw [t1, if_neg hs], fun q hq => gS_N hq, ?_, j2⟩
    rw [t1, if_pos rfl]
    exact (gS_new hk hm8).2
theorem cpSU (hB : B + 9 < 800000) (hn : n ≤ 8) (h0 : I 1 1 = nI n) : ∀ f i (C : HC) (J : HI), i ≤ n → n - i < f → Lay (B + i) L C → hT C = hT C0 → (∀ q, gS C0 q = true → gS C q = true ∧ kc C q = kc C0 q) → (∀ s, s < 8 → gS C0 (hT C0 s) = true) → (∀ c, (c < 107 ∧ ¬ (xtab c).1 < 7) ∨ 1000000 ≤ c ∨ (∃ s, s < 8 ∧ c = hT C0 s) → J c = I c) → (∀ s, s < i → kc C (hU C s) = kc C0 (hT C0 s) ∧ ∀ k, k < 7 → J (hU C s) k = I (hT C0 s) k) → ∃ C' K, L_Wall_copyFrom_2 f (nI i) C J = some (C', K) ∧ Lay (B + 8) L C' ∧ hT C' = hT C0 ∧ (∀ q, gS C0 q = true → gS C' q = true ∧ kc C' q = kc C0 q) ∧ (∀ c, (c < 107 ∧ ¬ (xtab c).1 < 7) ∨ 1000000 ≤ c ∨ (∃ s, s < 8 ∧ c = hT C0 s) → K c = I c) ∧ (∀ s, s < n → kc C' (hU C' s) = kc C0 (hT C0 s) ∧ ∀ k, k < 7 → K (hU C' s) k = I (hT C0 s) k) := by
  intro f
  induction f with
  | zero => intro i C J _ h; omega
  | succ f ih =>
    intro i C J hi hf hL hS hk hg0 hJ hd
    have hm1 := hL.1
    rw [L_Wall_copyFrom_2, hJ 1 (Or.inl (by decide)), h0]
    by_cases h : n ≤ i
    · rw [if_pos (nI_le h (by omega))]
      exact ⟨C, J, rfl, lay_up hL (by omega), hS, hk, hJ, fun s hs => hd s (by omega)⟩
    · have gS0 := lay_gT hL (show i < 8 by omega)
      rw [if_neg (nI_ge (by omega) (by omega)), nI_1, nI_clamp (show i < 2 ^ 31 by omega), gS0, bnd_nI (show i < 8 by omega) (by omega), Bool.and_self, grd_t rfl, vkind _ (gS_k gS0)]
      obtain ⟨C1, J1, m1, m2, m3, m4, m5, m6, m7⟩ := mkU (J := J) hL (by omega) (show i < 8 by omega) (gS_k gS0)
      have g1 := lay_gU m2 (show i < 8 by omega)
      have g2 := lay_gT m2 (show i < 8 by omega)
      have hm2 := m2.1
      rw [m1, Option.bind_some]
      simp only []
      rw [g1, g2, Bool.and_self, grd_t rfl, grd_t rfl]
      simp only [lt_def]
      rw [vcopy]
      obtain ⟨c1, c2⟩ := copy_at (I := J1) (q := hU C1 i) (q1 := hT C1 i) (lay_ut m2 (by omega) (by omega))
      have keep : ∀ q, gS C q = true → J1 q = J q := fun q hq => m7 q (by have := gS_lt hq; omega)
      refine ih (i + 1) C1 _ (by omega) (by omega) m2 (m3.trans hS) (fun q hq => ?_) hg0 (fun c hc => ?_) (fun s hs => ?_)
      · obtain ⟨a1, a2⟩ := hk q hq
        obtain ⟨b1, b2⟩ := m5 q a1
        exact ⟨b1, b2.trans a2⟩
      · have hcc := hJ c hc
        rcases hc with ⟨e1, e2⟩ | e1 | ⟨s, e1, e2⟩
        · rw [c1 c (fun e => st_ne g1 e1 e2 e.symm), m7 c (by omega)]; exact hcc
        · rw [c1 c (fun e => by have := gS_lt g1; omega), m7 c (by omega)]; exact hcc
        · rw [c1 c (fun e => by
            rw [e2, ← hS, ← m3] at e
            exact lay_tu m2 e1 (by omega) e), keep c (by rw [e2, ← hS]; exact lay_gT hL e1)]
          exact hcc
      · by_cases e : s = i
        · subst e
          refine ⟨by rw [m6, hS]; exact (hk _ (hg0 s (by omega))).2, fun k hk7 => ?_⟩
          rw [c2 k hk7, m3, keep _ gS0, hS, hJ _ (Or.inr (Or.inr ⟨s, by omega, rfl⟩))]
        · obtain ⟨d1, d2⟩ := hd s (by omega)
          have gs := lay_gU hL (show s < 8 by omega)
          refine ⟨by rw [m4 s e, (m5 _ gs).2]; exact d1, fun k hk7 => ?_⟩
          rw [c1 _ (lay_uu m2 (show s < 8 by omega) (show i < 8 by omega) e), m4 s e, keep _ gs]
          exact d2 k hk7
theorem wallU (hB : B + 9 < 800000) (hL : Lay B L C) (hD : WD D) (hW : RW C (hT C) I 1 D) : ∃ C' K, M_Wall_copyFrom C I = some (C', K) ∧ Lay (B + 8) L C' ∧ hT C' = hT C ∧ (∀ q, gS C q = true → gS C' q = true ∧ kc C' q = kc C q) ∧ (∀ c, (c < 107 ∧ ¬ (xtab c).1 < 7) ∨ 1000000 ≤ c ∨ (∃ s, s < 8 ∧ c = hT C s) → c ∉ [32, 42, 43, 44, 45, 47, 48, 49, 52, 53, 54, 62] → K c = I c) ∧ (∀ D', (∀ k, k < 270 → D' k = D k) → RW C' (hU C') K 32 D') := by
  have n8 := hD.1.2
  have l12 := hD.2.1.2
  obtain ⟨⟨a1, a2, a3, a4, a5⟩, a6, a7, a8, a9, a10, a11⟩ := hW
  obtain ⟨C', J1, p1, p2, p3, p4, p5, p6⟩ := cpSU (C0 := C) (I := I) (n := nS D) hB n8 (by rw [a1]; exact hD.1.1) 9 0 C I (by omega) (by omega) hL rfl (fun q hq => ⟨hq, rfl⟩) (fun s hs => lay_gT hL hs) (fun _ _ => rfl) (fun s hs => by omega)
  have fx : ∀ c, c < 107 → ¬ (xtab c).1 < 7 → J1 c = I c := fun c h1 h2 => p5 c (Or.inl ⟨h1, h2⟩)
  obtain ⟨J2, q1, q2, -, q4⟩ := cpL L_Wall_copyFrom_55 1 32 (fun _ _ _ => rfl) (by omega) l12 1000 0 (xu J1 32 1 (J1 1 1)) (by omega) (by omega) (by rw [xu_ne (by decide), fx 1 (by decide) (by decide), a2]; exact hD.2.1.1)
  obtain ⟨t1, t1l, t1e⟩ := rT_len a10
  obtain ⟨t2, t2l, t2e⟩ := rT_len a11
  have q2' : ∀ c, c ≠ 32 → c ≠ 42 → c ≠ 43 → c ≠ 44 → J2 c = J1 c := fun c c0 c1 c2 c3 => by rw [q2 c c1 c2 c3, xu_ne c0]
  generalize hJ4 : xu J2 32 5 (J2 1 5) = J4
  have r4 : ∀ c, c ≠ 32 → J4 c = J2 c := fun c hc => by rw [← hJ4, xu_ne hc]
  generalize hJ5 : xrow J4 45 (va_cpy (J4 14) (J4 45) 0 0 50) = J5
  have r5 : ∀ c, c ≠ 45 → J5 c = J4 c := fun c hc => by rw [← hJ5, xr_ne hc]
  have r5' : ∀ j, j < 50 → J5 45 j = J4 14 j := fun j hj => by rw [← hJ5, xr_at]; exact sb_cpy0 hj
  generalize hJ6 : xu J5 32 7 (J5 1 7) = J6
  have r6 : ∀ c, c ≠ 32 → J6 c = J5 c := fun c hc => by rw [← hJ6, xu_ne hc]
  have f6 : ∀ c, c ≠ 32 → c ≠ 42 → c ≠ 43 → c ≠ 44 → c ≠ 45 → J6 c = J1 c := fun c c0 c1 c2 c3 c4 => by rw [r6 c c0, r5 c c4, r4 c c0, q2' c c0 c1 c2 c3]
  obtain ⟨J7, s1, s2, -, s4⟩ := cpT L_Text_copyFrom_2_10 16 47 (fun _ _ _ => rfl) (by omega) t1l 1000 0 (xu J6 47 2 (J6 16 2)) (by omega) (by omega) (by rw [xu_ne (by decide), f6 _ (by decide) (by decide) (by decide) (by decide) (by decide), fx 16 (by decide) (by decide)]; exact t1e)
  have f7 : ∀ c, c ≠ 47 → c ≠ 48 → c ≠ 49 → J7 c = J6 c := fun c c0 c1 c2 => by rw [s2 c c1 c2, xu_ne c0]
  obtain ⟨J8, u1, u2, -, u4⟩ := cpT L_Text_copyFrom_3_10 21 52 (fun _ _ _ => rfl) (by omega) t2l 1000 0 (xu J7 52 2 (J7 21 2)) (by omega) (by omega) (by rw [xu_ne (by decide), f7 _ (by decide) (by decide) (by decide), f6 _ (by decide) (by decide) (by decide) (by decide) (by decide), fx 21 (by decide) (by decide)]; exact t2e)
  have f8 : ∀ c, c ≠ 52 → c ≠ 53 → c ≠ 54 → J8 c = J7 c := fun c c0 c1 c2 => by rw [u2 c c1 c2, xu_ne c0]
  generalize hJ9 : xrow J8 62 (va_cpy (J8 31) (J8 62) 0 0 20) = J9
  have r9 : ∀ c, c ≠ 62 → J9 c = J8 c := fun c hc => by rw [← hJ9, xr_ne hc]
  have r9' : ∀ j, j < 20 → J9 62 j = J8 31 j := fun j hj => by rw [← hJ9, xr_at]; exact sb_cpy0 hj
  generalize hJA : xu (xu J9 32 11 (J9 1 11)) 32 12 ((xu J9 32 11 (J9 1 11)) 1 12) = JA
  have rA : ∀ c, c ≠ 32 → JA c = J9 c := fun c hc => by rw [← hJA, xu_ne hc, xu_ne hc]
  have fA : ∀ c, c ∉ [32, 42, 43, 44, 45, 47, 48, 49, 52, 53, 54, 62] → JA c = J1 c := fun c hc => by
    simp only [List.mem_cons, List.not_mem_nil, or_false, not_or] at hc
    obtain ⟨e1, e2, e3, e4, e5, e6, e7, e8, e9, e10, e11, e12⟩ := hc
    rw [rA c e1, r9 c e12, f8 c e9 e10 e11, f7 c e6 e7 e8, f6 c e1 e2 e3 e4 e5]
  have fa : ∀ c, c ∈ [1, 11, 12, 13, 14, 16, 17, 18, 21, 22, 23, 31] → J1 c = I c := fun c hc => by
    have : ∀ c, c ∈ [1, 11, 12, 13, 14, 16, 17, 18, 21, 22, 23, 31] → c < 107 ∧ ¬ (xtab c).1 < 7 := by decide
    exact fx c (this c hc).1 (this c hc).2
  refine ⟨C', JA, ?_, p2, p3, p4, fun c h1 h2 => by rw [fA c h2]; exact p5 c h1, fun D' hD' => ?_⟩
  · unfold M_Wall_copyFrom M_Text_copyFrom_2 M_Text_copyFrom_3
    simp only [lt_def]
    rw [show L_Wall_copyFrom_2 9 0 C I = some (C', J1) from p1, Option.bind_some]
    simp only []
    rw [show L_Wall_copyFrom_55 1000 0 (xu J1 32 1 (J1 1 1)) = some J2 from q1, Option.bind_some, hJ4, grd_t (by decide), show (0 : Int32).toNatClampNeg = 0 from rfl, show (50 : Int32).toNatClampNeg = 50 from rfl, hJ5, hJ6, show L_Text_copyFrom_2_10 1000 0 (xu J6 47 2 (J6 16 2)) = some J7 from s1, Option.bind_some, Option.bind_some, show L_Text_copyFrom_3_10 1000 0 (xu J7 52 2 (J7 21 2)) = some J8 from u1, Option.bind_some, Option.bind_some, grd_t (by decide), show (20 : Int32).toNatClampNeg = 20 from rfl, hJ9, hJA]
  · have v9 : ∀ k, k ≠ 1 → k ≠ 5 → k ≠ 7 → J9 32 k = J1 32 k := fun k k1 k5 k7 => by
      rw [r9 _ (by decide), f8 _ (by decide) (by decide) (by decide), f7 _ (by decide) (by decide) (by decide), ← hJ6, xu_rn k7, r5 _ (by decide), ← hJ4, xu_rn k5, q2 _ (by decide) (by decide) (by decide), xu_rn k1]
    have w9 : ∀ c, c ∈ [1, 11, 12, 13, 14, 16, 17, 18, 21, 22, 23, 31] → J9 c = I c ∧ J8 c = I c ∧ J7 c = I c ∧ J6 c = I c ∧ J5 c = I c ∧ J4 c = I c ∧ J2 c = I c := fun c hc => by
      have : ∀ c, c ∈ [1, 11, 12, 13, 14, 16, 17, 18, 21, 22, 23, 31] → c ≠ 32 ∧ c ≠ 42 ∧ c ≠ 43 ∧ c ≠ 44 ∧ c ≠ 45 ∧ c ≠ 47 ∧ c ≠ 48 ∧ c ≠ 49 ∧ c ≠ 52 ∧ c ≠ 53 ∧ c ≠ 54 ∧ c ≠ 62 := by decide
      obtain ⟨e1, e2, e3, e4, e5, e6, e7, e8, e9, e10, e11, e12⟩ := this c hc
      have x2 : J2 c = I c := by rw [q2' c e1 e2 e3 e4]; exact fa c hc
      have x4 : J4 c = I c := by rw [r4 c e1]; exact x2
      have x5 : J5 c = I c := by rw [r5 c e5]; exact x4
      have x6 : J6 c = I c := by rw [r6 c e1]; exact x5
      have x7 : J7 c = I c := by rw [f7 c e6 e7 e8]; exact x6
      have x8 : J8 c = I c := by rw [f8 c e9 e10 e11]; exact x7
      exact ⟨by rw [r9 c e12]; exact x8, x8, x7, x6, x5, x4, x2⟩
    obtain ⟨y9, y8, y7, y6, y5, y4, y2⟩ := w9 1 (by decide)
    have b9 : ∀ k, J9 32 k = J6 32 k := fun k => by rw [r9 _ (by decide), f8 _ (by decide) (by decide) (by decide), f7 _ (by decide) (by decide) (by decide)]
    have tA : ∀ c, c ≠ 32 → c ≠ 62 → JA c = J8 c := fun c e1 e2 => by rw [rA c e1, r9 c e2]
    refine RW_cp (b := 1) (b' := 32) (I := I) (C := C) (T := hT C) (D := D) ⟨⟨a1, a2, a3, a4, a5⟩, a6, a7, a8, a9, a10, a11⟩ hD hD' ⟨?_, ?_, ?_, ?_, ?_⟩ (fun s hs => ?_) (fun l hl => ?_) (fun j hj => ?_) (fun j hj => ?_) ⟨?_, fun len hl1 hl2 j hj => ?_⟩ ⟨?_, fun len hl1 hl2 j hj => ?_⟩
    · rw [← hJA, xu_rn (by decide), xu_rn (by decide), b9, ← hJ6, xu_rn (by decide), r5 _ (by decide), ← hJ4, xu_rn (by decide), q2 _ (by decide) (by decide) (by decide), xu_rr, fa _ (by decide)]
    · rw [← hJA, xu_rn (by decide), xu_rn (by decide), b9, ← hJ6, xu_rn (by decide), r5 _ (by decide), ← hJ4, xu_rr, y2]
    · rw [← hJA, xu_rn (by decide), xu_rn (by decide), b9, ← hJ6, xu_rr, y5]
    · rw [← hJA, xu_rn (by decide), xu_rr, y9]
    · rw [← hJA, xu_rr, xu_ne (by decide), y9]
    · obtain ⟨d1, d2⟩ := p6 s hs
      refine ⟨d1, fun k hk => ?_⟩
      have gq := lay_gU p2 (show s < 8 by omega)
      rw [fA _ (fun hm => by
        have : ∀ c, c ∈ [32, 42, 43, 44, 45, 47, 48, 49, 52, 53, 54, 62] → c < 107 ∧ ¬ (xtab c).1 < 7 := by decide
        exact st_ne gq (this _ hm).1 (this _ hm).2 rfl)]
      exact d2 k hk
    · obtain ⟨d1, d2, d3⟩ := q4 l (by omega) hl
      have z : ∀ c, c ≠ 32 → c ≠ 45 → c ≠ 47 → c ≠ 48 → c ≠ 49 → c ≠ 52 → c ≠ 53 → c ≠ 54 → c ≠ 62 → JA c = J2 c := fun c e1 e2 e3 e4 e5 e6 e7 e8 e9 => by rw [tA c e1 e9, f8 c e6 e7 e8, f7 c e3 e4 e5, r6 c e1, r5 c e2, r4 c e1]
      have g : ∀ c, c ≠ 32 → xu J1 32 1 (J1 1 1) c = J1 c := fun c hc => xu_ne hc
      refine ⟨?_, ?_, ?_⟩
      · rw [z _ (by decide) (by decide) (by decide) (by decide) (by decide) (by decide) (by decide) (by decide) (by decide), d1, g _ (by decide), fa _ (by decide)]
      · rw [z _ (by decide) (by decide) (by decide) (by decide) (by decide) (by decide) (by decide) (by decide) (by decide), d2, g _ (by decide), fa _ (by decide)]
      · rw [z _ (by decide) (by decide) (by decide) (by decide) (by decide) (by decide) (by decide) (by decide) (by decide), d3, g _ (by decide), fa _ (by decide)]
    · show JA 45 j = I 14 j
      rw [tA _ (by decide) (by decide), f8 _ (by decide) (by decide) (by decide), f7 _ (by decide) (by decide) (by decide), r6 _ (by decide), r5' j hj, (w9 14 (by decide)).2.2.2.2.2.1]
    · show JA 62 j = I 31 j
      rw [rA _ (by decide), r9' j hj, (w9 31 (by decide)).2.1]
    · show JA 47 2 = I 16 2
      rw [tA _ (by decide) (by decide), f8 _ (by decide) (by decide) (by decide), s2 _ (by decide) (by decide), xu_rr, (w9 16 (by decide)).2.2.2.1]
    · have el : len = t1 := (nI_eq (by omega) (by omega)).mp (hl2.symm.trans t1e)
      obtain ⟨d1, d2⟩ := s4 j (by omega) (by omega)
      show JA 48 j = I 17 j ∧ JA 49 j = I 18 j
      rw [tA 48 (by decide) (by decide), tA 49 (by decide) (by decide), f8 48 (by decide) (by decide) (by decide), f8 49 (by decide) (by decide) (by decide)]
      refine ⟨d1.trans ?_, d2.trans ?_⟩
      · show xu J6 47 2 (J6 16 2) 17 j = _
        rw [xu_ne (by decide), (w9 17 (by decide)).2.2.2.1]
      · show xu J6 47 2 (J6 16 2) 18 j = _
        rw [xu_ne (by decide), (w9 18 (by decide)).2.2.2.1]
    · show JA 52 2 = I 21 2
      rw [tA _ (by decide) (by decide), u2 _ (by decide) (by decide), xu_rr, (w9 21 (by decide)).2.2.1]
    · have el : len = t2 := (nI_eq (by omega) (by omega)).mp (hl2.symm.trans t2e)
      obtain ⟨d1, d2⟩ := u4 j (by omega) (by omega)
      show JA 53 j = I 22 j ∧ JA 54 j = I 23 j
      rw [tA 53 (by decide) (by decide), tA 54 (by decide) (by decide)]
      refine ⟨d1.trans ?_, d2.trans ?_⟩
      · show xu J7 52 2 (J7 21 2) 22 j = _
        rw [xu_ne (by decide), (w9 22 (by decide)).2.2.1]
      · show xu J7 52 2 (J7 21 2) 23 j = _
        rw [xu_ne (by decide), (w9 23 (by decide)).2.2.1]
/-- a stroke of the right kind at a place -/
theorem mkT (h : Lay B L C) (hm8 : hm C < 800000) {i k : Nat} (hi : i < 8) (hk : k < 7) : ∃ C1 J1, M_Wall_makeOfKind C J (nI i) (nI k) = some (C1, J1) ∧ Lay (B + 1) L C1 ∧ hU C1 = hU C ∧ (∀ s, s ≠ i → hT C1 s = hT C s) ∧ (∀ q, gS C q = true → gS C1 q = true ∧ kc C1 q = kc C q) ∧ kc C1 (hT C1 i) = k ∧ (∀ c, c ≠ 107 + hm C → J1 c = J c) := by
  have hg := lay_gT h hi
  by_cases e : kc C (hT C i) = k
  · refine ⟨C, J, ?_, lay_up h (by omega), rfl, fun _ _ => rfl, fun q hq => ⟨hq, rfl⟩, e, fun _ _ => rfl⟩
    unfold M_Wall_makeOfKind
    rw [nI_clamp (by omega), hg, bnd_nI hi (by omega), Bool.and_self, grd_t rfl, vkind _ (gS_k hg), if_pos (by rw [e])]
  · obtain ⟨J1, j1, j2, j3⟩ := make_c (I := J) hk hi hm8 hg e
    have t1 : ∀ j, hT (cT (cN C k) i (107 + hm C)) j = if j = i then 107 + hm C else hT C j := fun j => rfl
    refine ⟨_, J1, j1, lay_T h hm8 hk hi, rfl, fun s hs => by rw [t1, if_neg hs], fun q hq => gS_N hq, ?_, j2⟩
    rw [t1, if_pos rfl]
    exact (gS_new hk hm8).2
theorem cpST (hB : B + 9 < 800000) (hn : n ≤ 8) (h0 : I 32 1 = nI n) : ∀ f i (C : HC) (J : HI), i ≤ n → n - i < f → Lay (B + i) L C → hU C = hU C0 → (∀ q, gS C0 q = true → gS C q = true ∧ kc C q = kc C0 q) → (∀ s, s < 8 → gS C0 (hU C0 s) = true) → (∀ c, (c < 107 ∧ ¬ (xtab c).1 < 7) ∨ 1000000 ≤ c ∨ (∃ s, s < 8 ∧ c = hU C0 s) → J c = I c) → (∀ s, s < i → kc C (hT C s) = kc C0 (hU C0 s) ∧ ∀ k, k < 7 → J (hT C s) k = I (hU C0 s) k) → ∃ C' K, L_Wall_copyFrom_2_2 f (nI i) C J = some (C', K) ∧ Lay (B + 8) L C' ∧ hU C' = hU C0 ∧ (∀ q, gS C0 q = true → gS C' q = true ∧ kc C' q = kc C0 q) ∧ (∀ c, (c < 107 ∧ ¬ (xtab c).1 < 7) ∨ 1000000 ≤ c ∨ (∃ s, s < 8 ∧ c = hU C0 s) → K c = I c) ∧ (∀ s, s < n → kc C' (hT C' s) = kc C0 (hU C0 s) ∧ ∀ k, k < 7 → K (hT C' s) k = I (hU C0 s) k) := by
  intro f
  induction f with
  | zero => intro i C J _ h; omega
  | succ f ih =>
    intro i C J hi hf hL hS hk hg0 hJ hd
    have hm1 := hL.1
    rw [L_Wall_copyFrom_2_2, hJ 32 (Or.inl (by decide)), h0]
    by_cases h : n ≤ i
    · rw [if_pos (nI_le h (by omega))]
      exact ⟨C, J, rfl, lay_up hL (by omega), hS, hk, hJ, fun s hs => hd s (by omega)⟩
    · have gS0 := lay_gU hL (show i < 8 by omega)
      rw [if_neg (nI_ge (by omega) (by omega)), nI_1, nI_clamp (show i < 2 ^ 31 by omega), gS0, bnd_nI (show i < 8 by omega) (by omega), Bool.and_self, grd_t rfl, vkind _ (gS_k gS0)]
      obtain ⟨C1, J1, m1, m2, m3, m4, m5, m6, m7⟩ := mkT (J := J) hL (by omega) (show i < 8 by omega) (gS_k gS0)
      have g1 := lay_gT m2 (show i < 8 by omega)
      have g2 := lay_gU m2 (show i < 8 by omega)
      have hm2 := m2.1
      rw [m1, Option.bind_some]
      simp only []
      rw [g1, g2, Bool.and_self, grd_t rfl, grd_t rfl]
      simp only [lt_def]
      rw [vcopy]
      obtain ⟨c1, c2⟩ := copy_at (I := J1) (q := hT C1 i) (q1 := hU C1 i) (lay_tu m2 (by omega) (by omega))
      have keep : ∀ q, gS C q = true → J1 q = J q := fun q hq => m7 q (by have := gS_lt hq; omega)
      refine ih (i + 1) C1 _ (by omega) (by omega) m2 (m3.trans hS) (fun q hq => ?_) hg0 (fun c hc => ?_) (fun s hs => ?_)
      · obtain ⟨a1, a2⟩ := hk q hq
        obtain ⟨b1, b2⟩ := m5 q a1
        exact ⟨b1, b2.trans a2⟩
      · have hcc := hJ c hc
        rcases hc with ⟨e1, e2⟩ | e1 | ⟨s, e1, e2⟩
        · rw [c1 c (fun e => st_ne g1 e1 e2 e.symm), m7 c (by omega)]; exact hcc
        · rw [c1 c (fun e => by have := gS_lt g1; omega), m7 c (by omega)]; exact hcc
        · rw [c1 c (fun e => by
            rw [e2, ← hS, ← m3] at e
            exact lay_ut m2 e1 (by omega) e), keep c (by rw [e2, ← hS]; exact lay_gU hL e1)]
          exact hcc
      · by_cases e : s = i
        · subst e
          refine ⟨by rw [m6, hS]; exact (hk _ (hg0 s (by omega))).2, fun k hk7 => ?_⟩
          rw [c2 k hk7, m3, keep _ gS0, hS, hJ _ (Or.inr (Or.inr ⟨s, by omega, rfl⟩))]
        · obtain ⟨d1, d2⟩ := hd s (by omega)
          have gs := lay_gT hL (show s < 8 by omega)
          refine ⟨by rw [m4 s e, (m5 _ gs).2]; exact d1, fun k hk7 => ?_⟩
          rw [c1 _ (lay_tt m2 (show s < 8 by omega) (show i < 8 by omega) e), m4 s e, keep _ gs]
          exact d2 k hk7
theorem wallT (hB : B + 9 < 800000) (hL : Lay B L C) (hD : WD D) (hW : RW C (hU C) I 32 D) : ∃ C' K, M_Wall_copyFrom_2 C I = some (C', K) ∧ Lay (B + 8) L C' ∧ hU C' = hU C ∧ (∀ q, gS C q = true → gS C' q = true ∧ kc C' q = kc C q) ∧ (∀ c, (c < 107 ∧ ¬ (xtab c).1 < 7) ∨ 1000000 ≤ c ∨ (∃ s, s < 8 ∧ c = hU C s) → c ∉ [1, 11, 12, 13, 14, 16, 17, 18, 21, 22, 23, 31] → K c = I c) ∧ (∀ D', (∀ k, k < 270 → D' k = D k) → RW C' (hT C') K 1 D') := by
  have n8 := hD.1.2
  have l12 := hD.2.1.2
  obtain ⟨⟨a1, a2, a3, a4, a5⟩, a6, a7, a8, a9, a10, a11⟩ := hW
  obtain ⟨C', J1, p1, p2, p3, p4, p5, p6⟩ := cpST (C0 := C) (I := I) (n := nS D) hB n8 (by rw [a1]; exact hD.1.1) 9 0 C I (by omega) (by omega) hL rfl (fun q hq => ⟨hq, rfl⟩) (fun s hs => lay_gU hL hs) (fun _ _ => rfl) (fun s hs => by omega)
  have fx : ∀ c, c < 107 → ¬ (xtab c).1 < 7 → J1 c = I c := fun c h1 h2 => p5 c (Or.inl ⟨h1, h2⟩)
  obtain ⟨J2, q1, q2, -, q4⟩ := cpL L_Wall_copyFrom_2_55 32 1 (fun _ _ _ => rfl) (by omega) l12 1000 0 (xu J1 1 1 (J1 32 1)) (by omega) (by omega) (by rw [xu_ne (by decide), fx 32 (by decide) (by decide), a2]; exact hD.2.1.1)
  obtain ⟨t1, t1l, t1e⟩ := rT_len a10
  obtain ⟨t2, t2l, t2e⟩ := rT_len a11
  have q2' : ∀ c, c ≠ 1 → c ≠ 11 → c ≠ 12 → c ≠ 13 → J2 c = J1 c := fun c c0 c1 c2 c3 => by rw [q2 c c1 c2 c3, xu_ne c0]
  generalize hJ4 : xu J2 1 5 (J2 32 5) = J4
  have r4 : ∀ c, c ≠ 1 → J4 c = J2 c := fun c hc => by rw [← hJ4, xu_ne hc]
  generalize hJ5 : xrow J4 14 (va_cpy (J4 45) (J4 14) 0 0 50) = J5
  have r5 : ∀ c, c ≠ 14 → J5 c = J4 c := fun c hc => by rw [← hJ5, xr_ne hc]
  have r5' : ∀ j, j < 50 → J5 14 j = J4 45 j := fun j hj => by rw [← hJ5, xr_at]; exact sb_cpy0 hj
  generalize hJ6 : xu J5 1 7 (J5 32 7) = J6
  have r6 : ∀ c, c ≠ 1 → J6 c = J5 c := fun c hc => by rw [← hJ6, xu_ne hc]
  have f6 : ∀ c, c ≠ 1 → c ≠ 11 → c ≠ 12 → c ≠ 13 → c ≠ 14 → J6 c = J1 c := fun c c0 c1 c2 c3 c4 => by rw [r6 c c0, r5 c c4, r4 c c0, q2' c c0 c1 c2 c3]
  obtain ⟨J7, s1, s2, -, s4⟩ := cpT L_Text_copyFrom_4_10 47 16 (fun _ _ _ => rfl) (by omega) t1l 1000 0 (xu J6 16 2 (J6 47 2)) (by omega) (by omega) (by rw [xu_ne (by decide), f6 _ (by decide) (by decide) (by decide) (by decide) (by decide), fx 47 (by decide) (by decide)]; exact t1e)
  have f7 : ∀ c, c ≠ 16 → c ≠ 17 → c ≠ 18 → J7 c = J6 c := fun c c0 c1 c2 => by rw [s2 c c1 c2, xu_ne c0]
  obtain ⟨J8, u1, u2, -, u4⟩ := cpT L_Text_copyFrom_5_10 52 21 (fun _ _ _ => rfl) (by omega) t2l 1000 0 (xu J7 21 2 (J7 52 2)) (by omega) (by omega) (by rw [xu_ne (by decide), f7 _ (by decide) (by decide) (by decide), f6 _ (by decide) (by decide) (by decide) (by decide) (by decide), fx 52 (by decide) (by decide)]; exact t2e)
  have f8 : ∀ c, c ≠ 21 → c ≠ 22 → c ≠ 23 → J8 c = J7 c := fun c c0 c1 c2 => by rw [u2 c c1 c2, xu_ne c0]
  generalize hJ9 : xrow J8 31 (va_cpy (J8 62) (J8 31) 0 0 20) = J9
  have r9 : ∀ c, c ≠ 31 → J9 c = J8 c := fun c hc => by rw [← hJ9, xr_ne hc]
  have r9' : ∀ j, j < 20 → J9 31 j = J8 62 j := fun j hj => by rw [← hJ9, xr_at]; exact sb_cpy0 hj
  generalize hJA : xu (xu J9 1 11 (J9 32 11)) 1 12 ((xu J9 1 11 (J9 32 11)) 32 12) = JA
  have rA : ∀ c, c ≠ 1 → JA c = J9 c := fun c hc => by rw [← hJA, xu_ne hc, xu_ne hc]
  have fA : ∀ c, c ∉ [1, 11, 12, 13, 14, 16, 17, 18, 21, 22, 23, 31] → JA c = J1 c := fun c hc => by
    simp only [List.mem_cons, List.not_mem_nil, or_false, not_or] at hc
    obtain ⟨e1, e2, e3, e4, e5, e6, e7, e8, e9, e10, e11, e12⟩ := hc
    rw [rA c e1, r9 c e12, f8 c e9 e10 e11, f7 c e6 e7 e8, f6 c e1 e2 e3 e4 e5]
  have fa : ∀ c, c ∈ [32, 42, 43, 44, 45, 47, 48, 49, 52, 53, 54, 62] → J1 c = I c := fun c hc => by
    have : ∀ c, c ∈ [32, 42, 43, 44, 45, 47, 48, 49, 52, 53, 54, 62] → c < 107 ∧ ¬ (xtab c).1 < 7 := by decide
    exact fx c (this c hc).1 (this c hc).2
  refine ⟨C', JA, ?_, p2, p3, p4, fun c h1 h2 => by rw [fA c h2]; exact p5 c h1, fun D' hD' => ?_⟩
  · unfold M_Wall_copyFrom_2 M_Text_copyFrom_4 M_Text_copyFrom_5
    simp only [lt_def]
    rw [show L_Wall_copyFrom_2_2 9 0 C I = some (C', J1) from p1, Option.bind_some]
    simp only []
    rw [show L_Wall_copyFrom_2_55 1000 0 (xu J1 1 1 (J1 32 1)) = some J2 from q1, Option.bind_some, hJ4, grd_t (by decide), show (0 : Int32).toNatClampNeg = 0 from rfl, show (50 : Int32).toNatClampNeg = 50 from rfl, hJ5, hJ6, show L_Text_copyFrom_4_10 1000 0 (xu J6 16 2 (J6 47 2)) = some J7 from s1, Option.bind_some, Option.bind_some, show L_Text_copyFrom_5_10 1000 0 (xu J7 21 2 (J7 52 2)) = some J8 from u1, Option.bind_some, Option.bind_some, grd_t (by decide), show (20 : Int32).toNatClampNeg = 20 from rfl, hJ9, hJA]
  · have v9 : ∀ k, k ≠ 1 → k ≠ 5 → k ≠ 7 → J9 1 k = J1 1 k := fun k k1 k5 k7 => by
      rw [r9 _ (by decide), f8 _ (by decide) (by decide) (by decide), f7 _ (by decide) (by decide) (by decide), ← hJ6, xu_rn k7, r5 _ (by decide), ← hJ4, xu_rn k5, q2 _ (by decide) (by decide) (by decide), xu_rn k1]
    have w9 : ∀ c, c ∈ [32, 42, 43, 44, 45, 47, 48, 49, 52, 53, 54, 62] → J9 c = I c ∧ J8 c = I c ∧ J7 c = I c ∧ J6 c = I c ∧ J5 c = I c ∧ J4 c = I c ∧ J2 c = I c := fun c hc => by
      have : ∀ c, c ∈ [32, 42, 43, 44, 45, 47, 48, 49, 52, 53, 54, 62] → c ≠ 1 ∧ c ≠ 11 ∧ c ≠ 12 ∧ c ≠ 13 ∧ c ≠ 14 ∧ c ≠ 16 ∧ c ≠ 17 ∧ c ≠ 18 ∧ c ≠ 21 ∧ c ≠ 22 ∧ c ≠ 23 ∧ c ≠ 31 := by decide
      obtain ⟨e1, e2, e3, e4, e5, e6, e7, e8, e9, e10, e11, e12⟩ := this c hc
      have x2 : J2 c = I c := by rw [q2' c e1 e2 e3 e4]; exact fa c hc
      have x4 : J4 c = I c := by rw [r4 c e1]; exact x2
      have x5 : J5 c = I c := by rw [r5 c e5]; exact x4
      have x6 : J6 c = I c := by rw [r6 c e1]; exact x5
      have x7 : J7 c = I c := by rw [f7 c e6 e7 e8]; exact x6
      have x8 : J8 c = I c := by rw [f8 c e9 e10 e11]; exact x7
      exact ⟨by rw [r9 c e12]; exact x8, x8, x7, x6, x5, x4, x2⟩
    obtain ⟨y9, y8, y7, y6, y5, y4, y2⟩ := w9 32 (by decide)
    have b9 : ∀ k, J9 1 k = J6 1 k := fun k => by rw [r9 _ (by decide), f8 _ (by decide) (by decide) (by decide), f7 _ (by decide) (by decide) (by decide)]
    have tA : ∀ c, c ≠ 1 → c ≠ 31 → JA c = J8 c := fun c e1 e2 => by rw [rA c e1, r9 c e2]
    refine RW_cp (b := 32) (b' := 1) (I := I) (C := C) (T := hU C) (D := D) ⟨⟨a1, a2, a3, a4, a5⟩, a6, a7, a8, a9, a10, a11⟩ hD hD' ⟨?_, ?_, ?_, ?_, ?_⟩ (fun s hs => ?_) (fun l hl => ?_) (fun j hj => ?_) (fun j hj => ?_) ⟨?_, fun len hl1 hl2 j hj => ?_⟩ ⟨?_, fun len hl1 hl2 j hj => ?_⟩
    · rw [← hJA, xu_rn (by decide), xu_rn (by decide), b9, ← hJ6, xu_rn (by decide), r5 _ (by decide), ← hJ4, xu_rn (by decide), q2 _ (by decide) (by decide) (by decide), xu_rr, fa _ (by decide)]
    · rw [← hJA, xu_rn (by decide), xu_rn (by decide), b9, ← hJ6, xu_rn (by decide), r5 _ (by decide), ← hJ4, xu_rr, y2]
    · rw [← hJA, xu_rn (by decide), xu_rn (by decide), b9, ← hJ6, xu_rr, y5]
    · rw [← hJA, xu_rn (by decide), xu_rr, y9]
    · rw [← hJA, xu_rr, xu_ne (by decide), y9]
    · obtain ⟨d1, d2⟩ := p6 s hs
      refine ⟨d1, fun k hk => ?_⟩
      have gq := lay_gT p2 (show s < 8 by omega)
      rw [fA _ (fun hm => by
        have : ∀ c, c ∈ [1, 11, 12, 13, 14, 16, 17, 18, 21, 22, 23, 31] → c < 107 ∧ ¬ (xtab c).1 < 7 := by decide
        exact st_ne gq (this _ hm).1 (this _ hm).2 rfl)]
      exact d2 k hk
    · obtain ⟨d1, d2, d3⟩ := q4 l (by omega) hl
      have z : ∀ c, c ≠ 1 → c ≠ 14 → c ≠ 16 → c ≠ 17 → c ≠ 18 → c ≠ 21 → c ≠ 22 → c ≠ 23 → c ≠ 31 → JA c = J2 c := fun c e1 e2 e3 e4 e5 e6 e7 e8 e9 => by rw [tA c e1 e9, f8 c e6 e7 e8, f7 c e3 e4 e5, r6 c e1, r5 c e2, r4 c e1]
      have g : ∀ c, c ≠ 1 → xu J1 1 1 (J1 32 1) c = J1 c := fun c hc => xu_ne hc
      refine ⟨?_, ?_, ?_⟩
      · rw [z _ (by decide) (by decide) (by decide) (by decide) (by decide) (by decide) (by decide) (by decide) (by decide), d1, g _ (by decide), fa _ (by decide)]
      · rw [z _ (by decide) (by decide) (by decide) (by decide) (by decide) (by decide) (by decide) (by decide) (by decide), d2, g _ (by decide), fa _ (by decide)]
      · rw [z _ (by decide) (by decide) (by decide) (by decide) (by decide) (by decide) (by decide) (by decide) (by decide), d3, g _ (by decide), fa _ (by decide)]
    · show JA 14 j = I 45 j
      rw [tA _ (by decide) (by decide), f8 _ (by decide) (by decide) (by decide), f7 _ (by decide) (by decide) (by decide), r6 _ (by decide), r5' j hj, (w9 45 (by decide)).2.2.2.2.2.1]
    · show JA 31 j = I 62 j
      rw [rA _ (by decide), r9' j hj, (w9 62 (by decide)).2.1]
    · show JA 16 2 = I 47 2
      rw [tA _ (by decide) (by decide), f8 _ (by decide) (by decide) (by decide), s2 _ (by decide) (by decide), xu_rr, (w9 47 (by decide)).2.2.2.1]
    · have el : len = t1 := (nI_eq (by omega) (by omega)).mp (hl2.symm.trans t1e)
      obtain ⟨d1, d2⟩ := s4 j (by omega) (by omega)
      show JA 17 j = I 48 j ∧ JA 18 j = I 49 j
      rw [tA 17 (by decide) (by decide), tA 18 (by decide) (by decide), f8 17 (by decide) (by decide) (by decide), f8 18 (by decide) (by decide) (by decide)]
      refine ⟨d1.trans ?_, d2.trans ?_⟩
      · show xu J6 16 2 (J6 47 2) 48 j = _
        rw [xu_ne (by decide), (w9 48 (by decide)).2.2.2.1]
      · show xu J6 16 2 (J6 47 2) 49 j = _
        rw [xu_ne (by decide), (w9 49 (by decide)).2.2.2.1]
    · show JA 21 2 = I 52 2
      rw [tA _ (by decide) (by decide), u2 _ (by decide) (by decide), xu_rr, (w9 52 (by decide)).2.2.1]
    · have el : len = t2 := (nI_eq (by omega) (by omega)).mp (hl2.symm.trans t2e)
      obtain ⟨d1, d2⟩ := u4 j (by omega) (by omega)
      show JA 22 j = I 53 j ∧ JA 23 j = I 54 j
      rw [tA 22 (by decide) (by decide), tA 23 (by decide) (by decide)]
      refine ⟨d1.trans ?_, d2.trans ?_⟩
      · show xu J7 21 2 (J7 52 2) 53 j = _
        rw [xu_ne (by decide), (w9 53 (by decide)).2.2.1]
      · show xu J7 21 2 (J7 52 2) 54 j = _
        rw [xu_ne (by decide), (w9 54 (by decide)).2.2.1]
end IM
