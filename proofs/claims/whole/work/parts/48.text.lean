section RM
variable {B B' L : Nat} {xs : Nat → Int32} {C C' : HC} {I J K : HI} {D : Nat → Int32} {b b' : Nat → Int32} {len u : Nat}
/-! only the bytes below the length matter -/
theorem tch_c (h : ∀ j, j < len → b j = b' j) : tch b len = tch b' len := by
  funext p
  unfold tch
  by_cases hp : p < len
  · rw [if_pos hp, if_pos hp, h p hp]
  · rw [if_neg hp, if_neg hp]
theorem nml_c (h : tch b len = tch b' len) : ∀ k v p, nml b len k v p = nml b' len k v p := by
  intro k
  induction k with
  | zero => intro v p; rfl
  | succ k ih => intro v p; unfold nml; rw [h, ih]
theorem layl_c (h : tch b len = tch b' len) (l : Int32) (X : Nat → TRes) : ∀ k acc p, layl b len l X k acc p = layl b' len l X k acc p := by
  intro k
  induction k with
  | zero => intro acc p; rfl
  | succ k ih =>
    intro acc p
    unfold layl
    rw [h]
    by_cases h1 : M_Text_levelOf (tch b' len p) = l
    · rw [if_pos h1, if_pos h1]
      cases X (p + 1) with
      | inl f => rfl
      | inr r =>
        obtain ⟨st, q⟩ := r
        simp only []
        by_cases h2 : l = 2
        · rw [if_pos h2, if_pos h2]
        · rw [if_neg h2, if_neg h2, ih]
    · rw [if_neg h1, if_neg h1]
theorem lev_cc (h : tch b len = tch b' len) (l : Int32) (X : Nat → TRes) : lev b len l X = lev b' len l X := by
  funext p
  unfold lev
  cases X p with
  | inl f => rfl
  | inr r => obtain ⟨st, q⟩ := r; exact layl_c h l X 51 st q
theorem eX_c (h : tch b len = tch b' len) (X : Nat → TRes) : eX b len X = eX b' len X := by
  unfold eX
  rw [lev_cc h 4, lev_cc h 3, lev_cc h 2, lev_cc h 1, lev_cc h 0]
theorem lf_c (h : tch b len = tch b' len) : ∀ k, lf b len u k = lf b' len u k := by
  intro k
  induction k with
  | zero =>
    funext p
    unfold lf lfb
    rw [nml_c h, h]
  | succ k ih =>
    funext p
    unfold lf lfb
    rw [ih, nml_c h, eX_c h]
    unfold bk
    rw [h]
theorem pT_c (h : ∀ j, j < len → b j = b' j) : pT b len u = pT b' len u := by
  unfold pT
  rw [lf_c (tch_c h), eX_c (tch_c h)]
theorem pT_g (h50 : len ≤ 50) : (∀ f, pT b len u = .inl f → f ≤ len) ∧ (∀ st q, pT b len u = .inr (st, q) → 0 < q ∧ q ≤ len ∧ st.length ≤ q ∧ 1 ≤ st.length) := by
  have := g_eX (b := b) h50 (g_lf (b := b) (u := u) h50 5) 0 (by omega)
  exact ⟨fun f h => (this.1 f h).2, fun st q h => by have := this.2 st q h; omega⟩
/-! the class reads the tape -/
theorem read_c {dn : Nat} (h50 : len ≤ 50) (hb : ∀ j, j < len → I 14 j = b j) (hr : ∀ j, j < len → rg (b j) 255) (hdn : dn = if u = 0 then 1000003 else 1000004) : ∃ M, fr [26, 27, 28] I M ∧ ((∃ f, (pT b len u = .inl f ∨ ∃ st, pT b len u = .inr (st, f) ∧ f ≠ len) ∧ f ≤ len ∧ M_Text_read C I (nI len) dn = some (nI f, cD C 14 dn, M)) ∨ (∃ st, pT b len u = .inr (st, len) ∧ st.length ≤ 50 ∧ 1 ≤ st.length ∧ M_Text_read C I (nI len) dn = some (-1, cD C 14 dn, M) ∧ M 26 2 = nI st.length ∧ ∀ j, j < st.length → M 27 j = (st.getD j (0, 0)).1 ∧ M 28 j = (st.getD j (0, 0)).2)) := by
  have h0 : TS b len (xu (xu (xu I 26 5 (nI len)) 26 6 0) 26 2 0) 0 [] := by
    refine ⟨by rw [xu_rn (by decide), xu_rn (by decide), xu_rr], by rw [xu_rn (by decide), xu_rr]; rfl, by rw [xu_rr]; rfl, fun j hj => by rw [xu_qn (by decide), xu_qn (by decide), xu_qn (by decide)]; exact hb j hj, fun j hj => absurd hj (by simp)⟩
  obtain ⟨t1, t2⟩ := top_c (u := u) h50 hr hdn _ 0 [] (by omega) (by simp) h0
  obtain ⟨g1, g2⟩ := pT_g (b := b) (u := u) h50
  have f0 : fr [26, 27, 28] I (xu (xu (xu I 26 5 (nI len)) 26 6 0) 26 2 0) := fr.wr (by decide) (fr.wr (by decide) (fr.wr (by decide) fr.refl))
  unfold M_Text_read
  simp only [lt_def]
  cases hp : pT b len u with
  | inl f =>
    obtain ⟨M, m1, m2⟩ := t1 f hp
    simp only [] at m1
    have fm := fr.trans f0 (w_Text_readLevel (fun {_ _ _ _} h => w_U_rl dn 60 h) (fun {_ _ _} h => w_U_rf dn 60 h) m1)
    refine ⟨M, fm, Or.inl ⟨f, Or.inl rfl, g1 f hp, ?_⟩⟩
    rw [m1, Option.bind_some]
    simp only []
    rw [if_pos trivial, m2]
  | inr r =>
    obtain ⟨st, q⟩ := r
    obtain ⟨M, m1, m2, m3, m4, m5, m6⟩ := t2 st q hp
    simp only [] at m1
    have fm := fr.trans f0 (w_Text_readLevel (fun {_ _ _ _} h => w_U_rl dn 60 h) (fun {_ _ _} h => w_U_rf dn 60 h) m1)
    obtain ⟨q0, q1, q2, q3⟩ := g2 st q hp
    refine ⟨M, fm, ?_⟩
    rw [List.nil_append] at m4 m6
    by_cases hq : q = len
    · subst hq
      refine Or.inr ⟨st, rfl, by omega, q3, ?_, m4, m6⟩
      rw [m1, Option.bind_some]
      simp only []
      rw [if_neg one0, m2, m3, if_pos rfl]
    · refine Or.inl ⟨q, Or.inr ⟨st, rfl, hq⟩, q1, ?_⟩
      rw [m1, Option.bind_some]
      simp only []
      rw [if_neg one0, m2, m3, if_neg (fun e => hq ((nI_eq (by omega) (by omega)).mp e))]
theorem copy_t (t0 : Nat) (ht : t0 = 16 ∨ t0 = 21) (n : Nat) (hn : n ≤ 50) : ∀ f i (I : HI), i ≤ n → n - i < f → I 26 2 = nI n → ∃ J, L_Text_copyFrom_10 t0 f (nI i) I = some J ∧ (∀ c, c ≠ t0 + 1 → c ≠ t0 + 2 → J c = I c) ∧ (∀ j, j < i → J (t0 + 1) j = I (t0 + 1) j ∧ J (t0 + 2) j = I (t0 + 2) j) ∧ (∀ j, i ≤ j → j < n → J (t0 + 1) j = I 27 j ∧ J (t0 + 2) j = I 28 j) := by
  intro f
  induction f with
  | zero => intro i I _ h; omega
  | succ f ih =>
    intro i I hi hf h2
    unfold L_Text_copyFrom_10
    rw [h2]
    by_cases h : n ≤ i
    · rw [if_pos (nI_le h (by omega))]
      exact ⟨I, rfl, fun _ _ _ => rfl, fun _ _ => ⟨rfl, rfl⟩, fun j _ _ => by omega⟩
    · rw [if_neg (nI_ge (by omega) (by omega)), grd_t (bnd_nI (by omega) (by omega)), nI_clamp (by omega), nI_1]
      simp only [lt_def]
      obtain ⟨J, j1, j2, j3, j4⟩ := ih (i + 1) (xu (xu I (t0 + 1) i (I 27 i)) (t0 + 2) i (xu I (t0 + 1) i (I 27 i) 28 i)) (by omega) (by omega) (by rw [xu_qn (by omega), xu_qn (by omega)]; exact h2)
      refine ⟨J, j1, fun c c1 c2 => by rw [j2 c c1 c2, xu_ne c2, xu_ne c1], fun j hj => ?_, fun j h1 h2 => ?_⟩
      · rw [(j3 j (by omega)).1, (j3 j (by omega)).2, xu_qn (by omega), xu_rn (by omega), xu_rn (by omega), xu_qn (by omega)]
        exact ⟨rfl, rfl⟩
      · by_cases e : j = i
        · subst e
          rw [(j3 j (by omega)).1, (j3 j (by omega)).2, xu_qn (by omega), xu_rr, xu_rr, xu_qn (by omega)]
          exact ⟨rfl, rfl⟩
        · obtain ⟨a1, a2⟩ := j4 j (by omega) h2
          rw [a1, a2, xu_qn (by omega), xu_qn (by omega), xu_qn (by omega), xu_qn (by omega)]
          exact ⟨rfl, rfl⟩
theorem bytes_m (hu : u < 2) (hl : len ≤ 50) : ∀ f i (I : HI), i ≤ len → len - i < f → ∃ J, L_Model_text_68 (nI u) (nI len) f (nI i) I = some J ∧ (∀ c, c ≠ 89 → J c = I c) ∧ (∀ k, (k < 119 + 50 * u + i ∨ 119 + 50 * u + len ≤ k) → J 89 k = I 89 k) ∧ (∀ j, i ≤ j → j < len → J 89 (119 + 50 * u + j) = I 89 (219 + j)) := by
  intro f
  induction f with
  | zero => intro i I _ h; omega
  | succ f ih =>
    intro i I hi hf
    unfold L_Model_text_68
    by_cases h : len ≤ i
    · rw [if_pos (nI_le h (by omega))]
      exact ⟨I, rfl, fun _ _ => rfl, fun _ _ => rfl, fun j _ _ => by omega⟩
    · rw [if_neg (nI_ge (by omega) (by omega)), show (219 : Int32) + nI i = nI (219 + i) from nI_add 219 i, show (119 : Int32) + 50 * nI u + nI i = nI (119 + 50 * u + i) from by rw [show (50 : Int32) * nI u = nI (50 * u) from pk_mul 50 u, show (119 : Int32) = nI 119 from rfl, nI_add, nI_add], grd_t (bnd_nI (by omega) (by omega)), grd_t (bnd_nI (by omega) (by omega)), nI_clamp (by omega), nI_clamp (by omega), nI_1]
      simp only [lt_def]
      obtain ⟨J, j1, j2, j3, j4⟩ := ih (i + 1) (xu I 89 (119 + 50 * u + i) (I 89 (219 + i))) (by omega) (by omega)
      refine ⟨J, j1, fun c hc => by rw [j2 c hc, xu_ne hc], fun k hk => by rw [j3 k (by omega), xu_rn (by omega)], fun j h1 h2 => ?_⟩
      by_cases e : j = i
      · subst e; rw [j3 _ (by omega), xu_rr]
      · rw [j4 j (by omega) h2, xu_rn (by omega)]
theorem Rel.cD {t n : Nat} (h : Rel B L xs C I) : Rel B L xs (cD C t n) I := h
theorem ok_text (h : Rel B L xs C I) (x : Int32) : OK2 B L xs (M_H_text C I x) (fun J => M_Model_text J x) := by
  obtain ⟨z1, z2, ⟨⟨y1, y2⟩, y3, y4⟩, z4, z5, z6⟩ := h.za
  have hc7 : I 1 7 = nI (nT (I 89)) := by rw [y4]; exact y1
  unfold M_H_text M_Model_text
  simp only [bsome, lt_def, in_nat x (a := 0) (b := 1) (by decide) (by decide), within_eq]
  by_cases hx : ((0 : Nat) : Int) ≤ x.toInt ∧ x.toInt ≤ ((1 : Nat) : Int)
  · have hx' : 0 ≤ x.toInt ∧ x.toInt ≤ (1 : Int32).toInt := hx
    simp only [if_pos hx, if_pos hx', if_neg one0]
    obtain ⟨u, hu, rfl⟩ : ∃ a : Nat, (a < 2) ∧ x = nI a := ⟨x.toInt.toNat, by omega, i_nI (by omega)⟩
    generalize hlen : nT (I 89) = len at *
    obtain ⟨M, fm, hcase⟩ := read_c (C := C) (I := I) (b := fun j => I 89 (219 + j)) (len := len) (u := u) (dn := if u = 0 then 1000003 else 1000004) y2 (fun j hj => (y3 j hj).2) (fun j hj => (y3 j hj).1) rfl
    have hM : ∀ c, c ≠ 26 → c ≠ 27 → c ≠ 28 → M c = I c := fun c c1 c2 c3 => fm c (by simp [c1, c2, c3])
    have rt : M_Wall_readTape C I (nI u) = (M_Text_read C I (nI len) (if u = 0 then 1000003 else 1000004)).bind fun p2 => if (0 : Int32) ≤ p2.1 then some (p2.1, p2.2.1, xu p2.2.2 1 7 0) else (M_Text_copyFrom p2.2.2 (16 + 5 * u)).bind fun p6 => some (p2.1, p2.2.1, xu p6 1 7 0) := by
      unfold M_Wall_readTape
      have hb2 : bnd (nI u) 2 = true := bnd_nI hu (by omega)
      simp only [grd_t hb2, nI_clamp (show u < 2 ^ 31 by omega), hc7, lt_def]
      rcases (show u = 0 ∨ u = 1 by omega) with rfl | rfl
      · rw [if_pos (show nI 0 = 0 from rfl), if_pos rfl]
      · rw [if_neg (show ¬ nI 1 = 0 by decide), if_neg (show ¬ (1 : Nat) = 0 by decide)]
    rw [rt]
    obtain ⟨w1, w2⟩ := worked_m (I := xu M 89 3 0) (b := fun j => I 89 (219 + j)) (len := len) (bs := 219) (u := u) y2 (by omega) hu (fun j hj => by rw [xu_rn (by omega), hM 89 (by decide) (by decide) (by decide)])
    -- the reference on a state with the class's tape emptied
    have wm : ∀ J : HI, J 89 = I 89 → (∀ f, pT (fun j => I 89 (219 + j)) len u = .inl f → ∃ v K, M_Model_worked (xu J 89 3 0) (nI 219) (nI len) (nI u) = some (v, K) ∧ K 88 7 = nI f) ∧ (∀ st q, pT (fun j => I 89 (219 + j)) len u = .inr (st, q) → ∃ v K, M_Model_worked (xu J 89 3 0) (nI 219) (nI len) (nI u) = some (v, K) ∧ K 88 7 = if q = len then -1 else nI q) := by
      intro J hJ
      obtain ⟨w1, w2⟩ := worked_m (I := xu J 89 3 0) (b := fun j => I 89 (219 + j)) (len := len) (bs := 219) (u := u) y2 (by omega) hu (fun j hj => by rw [xu_rn (by omega), hJ])
      refine ⟨w1, fun st q hp => ?_⟩
      obtain ⟨v, K, k1, k2⟩ := w2 st q hp
      refine ⟨v, K, k1, ?_⟩
      by_cases e : q = len
      · rw [if_pos e] at k2 ⊢; exact k2.2
      · rw [if_neg e] at k2 ⊢; exact k2
    -- the tape emptied on both sides
    have tape : ∀ (J K : HI), (∀ c, c ≠ 1 → c ≠ 26 → c ≠ 27 → c ≠ 28 → J c = I c) → J 1 = xu I 1 7 0 1 → (∀ c, c ≠ 88 → K c = xu J 89 3 0 c) → K 88 2 = J 88 2 → K 88 21 = J 88 21 → Rel B L xs C K := by
      intro J K j1 j2 k1 k2 k3
      have h88 : J 88 = I 88 := j1 88 (by decide) (by decide) (by decide) (by decide)
      have h89 : ∀ k, k ≠ 3 → K 89 k = I 89 k := fun k hk => by rw [k1 89 (by decide), xu_rn hk, j1 89 (by decide) (by decide) (by decide) (by decide)]
      have h893 : K 89 3 = nI 0 := by rw [k1 89 (by decide), xu_rr]; rfl
      refine h.upT ?_ (by rw [k2, h88]) (by rw [k3, h88]) (fun k hk _ => h89 k hk) ?_ ?_
      · intro c c1 c2 c3 c4
        have hh : ∀ x, x ∈ SCR → c ≠ x := fun x hx e => c4 (e ▸ hx)
        rw [k1 c (hh 88 (by decide)), xu_ne c3, j1 c c1 (hh 26 (by decide)) (hh 27 (by decide)) (hh 28 (by decide))]
      · intro k hk
        rw [k1 1 (by decide), xu_ne (by decide), j2, xu_rn hk]
      · have en : nT (K 89) = 0 := nT_v h893 (by omega)
        refine ⟨⟨by rw [en, h893], by omega⟩, fun j hj => by omega, ?_⟩
        rw [k1 1 (by decide), xu_ne (by decide), j2, xu_rr, h893]; rfl
    have hfail : ∀ f, f ≤ len → (pT (fun j => I 89 (219 + j)) len u = .inl f ∨ ∃ st, pT (fun j => I 89 (219 + j)) len u = .inr (st, f) ∧ f ≠ len) → M_Text_read C I (nI len) (if u = 0 then 1000003 else 1000004) = some (nI f, CHandOverHorseLaw_law_r6034_3da50c.cD C 14 (if u = 0 then 1000003 else 1000004), M) → OK2 B L xs (((M_Text_read C I (nI len) (if u = 0 then 1000003 else 1000004)).bind fun p2 => if (0 : Int32) ≤ p2.1 then some (p2.1, p2.2.1, xu p2.2.2 1 7 0) else (M_Text_copyFrom p2.2.2 (16 + 5 * u)).bind fun p6 => some (p2.1, p2.2.1, xu p6 1 7 0)).bind fun p3 => if (0 : Int32) ≤ p3.1 then some (-10 - p3.1, p3.2.1, p3.2.2) else some (1, p3.2.1, p3.2.2)) (fun J => (M_Model_worked (xu J 89 3 0) 219 (J 89 3) (nI u)).bind fun p4 => if p4.2 88 7 < 0 then grd (bnd (97 + nI u) 270) ((L_Model_text_68 (nI u) (J 89 3) 1000 0 (xu p4.2 89 (97 + nI u).toNatClampNeg (J 89 3))).bind fun p8 => some (1, p8)) else some (-10 - p4.2 88 7, p4.2)) := by
      intro f hf hp hr
      rw [hr, Option.bind_some]
      simp only []
      rw [if_pos (nI_pos' (by omega)), Option.bind_some]
      simp only []
      rw [if_pos (nI_pos' (by omega))]
      have hJ : ∀ c, c ≠ 1 → c ≠ 26 → c ≠ 27 → c ≠ 28 → xu M 1 7 0 c = I c := fun c c1 c2 c3 c4 => by rw [xu_ne c1, hM c c2 c3 c4]
      have h89 := hJ 89 (by decide) (by decide) (by decide) (by decide)
      obtain ⟨a1, a2⟩ := wm (xu M 1 7 0) h89
      obtain ⟨v, K, k1, k2⟩ : ∃ v K, M_Model_worked (xu (xu M 1 7 0) 89 3 0) (nI 219) (nI len) (nI u) = some (v, K) ∧ K 88 7 = nI f := by
        rcases hp with hp | ⟨st, hp, hne⟩
        · exact a1 f hp
        · obtain ⟨v, K, k1, k2⟩ := a2 st f hp
          rw [if_neg hne] at k2
          exact ⟨v, K, k1, k2⟩
      have hw : CHandOverHorseLaw_law_r6034_3da50c.fr [88] _ K := w_Model_worked k1
      have hv : fk [4, 5, 6, 7, 8, 9] _ K := v_Model_worked k1
      refine ⟨-10 - nI f, _, xu M 1 7 0, K, rfl, ?_, ((tape _ K hJ ?_ ?_ ?_ ?_).mono (by omega)).cD⟩
      · show (M_Model_worked (xu (xu M 1 7 0) 89 3 0) 219 (xu M 1 7 0 89 3) (nI u)).bind _ = _
        rw [h89, y1, show (219 : Int32) = nI 219 from rfl, k1, Option.bind_some]
        simp only []
        rw [k2, if_neg (nI_pos (by omega))]
      · funext k
        rw [xu_app, xu_app, if_pos rfl, if_pos rfl, hM 1 (by decide) (by decide) (by decide)]
      · intro c hc; exact hw c (by simp [hc])
      · rw [hv 2 (by decide), xu_ne (by decide)]
      · rw [hv 21 (by decide), xu_ne (by decide)]
    rcases hcase with ⟨f, hp, hf, hr⟩ | ⟨st, hp, hl50, hl1, hr, m2, m3⟩
    · exact hfail f hf hp hr
    · rw [hr, Option.bind_some]
      simp only []
      rw [if_neg (show ¬ (0 : Int32) ≤ -1 by decide)]
      obtain ⟨g0, g1, g2, g3⟩ := (pT_g y2).2 st len hp
      unfold M_Text_copyFrom
      simp only [lt_def]
      obtain ⟨N, n1, n2, n3, n4⟩ := copy_t (16 + 5 * u) (by omega) st.length hl50 1000 0 (xu M (16 + 5 * u) 2 (M 26 2)) (by omega) (by omega) (by rw [xu_qn (by omega)]; exact m2)
      rw [show (0 : Int32) = nI 0 from rfl, n1, Option.bind_some, Option.bind_some, Option.bind_some]
      simp only []
      rw [if_neg (show ¬ nI 0 ≤ -1 by decide)]
      generalize hJe : xu N 1 7 (nI 0) = J
      have hN : ∀ c, c ≠ 16 + 5 * u → c ≠ 16 + 5 * u + 1 → c ≠ 16 + 5 * u + 2 → c ≠ 26 → c ≠ 27 → c ≠ 28 → N c = I c := fun c c1 c2 c3 c4 c5 c6 => by rw [n2 c c2 c3, xu_ne c1, hM c c4 c5 c6]
      have hJ : ∀ c, c ≠ 1 → c ≠ 16 + 5 * u → c ≠ 16 + 5 * u + 1 → c ≠ 16 + 5 * u + 2 → c ≠ 26 → c ≠ 27 → c ≠ 28 → J c = I c := fun c c0 c1 c2 c3 c4 c5 c6 => by rw [← hJe, xu_ne c0, hN c c1 c2 c3 c4 c5 c6]
      have h89 := hJ 89 (by decide) (by omega) (by omega) (by omega) (by decide) (by decide) (by decide)
      have h88 := hJ 88 (by decide) (by omega) (by omega) (by omega) (by decide) (by decide) (by decide)
      obtain ⟨-, a2⟩ := wm J h89
      obtain ⟨v, P, k1, k2⟩ := a2 st len hp
      rw [if_pos rfl] at k2
      have hw : CHandOverHorseLaw_law_r6034_3da50c.fr [88] _ P := w_Model_worked k1
      have hv : fk [4, 5, 6, 7, 8, 9] _ P := v_Model_worked k1
      obtain ⟨K, q1, q2, q3, q4⟩ := bytes_m (u := u) (len := len) hu y2 1000 0 (xu P 89 (97 + u) (nI len)) (by omega) (by omega)
      refine ⟨1, _, J, K, rfl, ?_, (Rel.mono ?_ (show B ≤ B + 9 by omega)).cD⟩
      · show (M_Model_worked (xu J 89 3 0) 219 (J 89 3) (nI u)).bind _ = _
        rw [h89, y1, show (219 : Int32) = nI 219 from rfl, k1, Option.bind_some]
        simp only []
        rw [k2, if_pos (show (-1 : Int32) < nI 0 by decide), show (97 : Int32) + nI u = nI (97 + u) from nI_add 97 u, grd_t (bnd_nI (by omega) (by omega)), nI_clamp (by omega), q1, Option.bind_some]
      · have p88 : ∀ c, c ≠ 88 → P c = xu J 89 3 0 c := fun c hc => hw c (by simp [hc])
        have p89 : ∀ k, k ≠ 3 → P 89 k = I 89 k := fun k hk => by rw [p88 89 (by decide), xu_rn hk, h89]
        have kc : ∀ c, c ≠ 88 → c ≠ 89 → K c = J c := fun c c1 c2 => by rw [q2 c c2, xu_ne c2, p88 c c1, xu_ne c2]
        have e : ∀ k, k ≠ 3 → k ≠ 97 + u → (k < 119 + 50 * u ∨ 119 + 50 * u + len ≤ k) → K 89 k = I 89 k := fun k k1 k2 k3 => by rw [q3 k (by omega), xu_rn k2, p89 k k1]
        have e3 : K 89 3 = nI 0 := by rw [q3 3 (by omega), xu_rn (by omega), p88 89 (by decide), xu_rr]; rfl
        have e97 : K 89 (97 + u) = nI len := by rw [q3 _ (by omega), xu_rr]
        have eb : ∀ j, j < len → K 89 (119 + 50 * u + j) = I 89 (219 + j) := fun j hj => by rw [q4 j (by omega) hj, xu_rn (by omega), p89 _ (by omega)]
        have k1' : ∀ k, k ≠ 7 → K 1 k = I 1 k := fun k hk => by rw [kc 1 (by decide) (by decide), ← hJe, xu_rn hk, hN 1 (by omega) (by omega) (by omega) (by decide) (by decide) (by decide)]
        have k17 : K 1 7 = nI 0 := by rw [kc 1 (by decide) (by decide), ← hJe, xu_rr]
        have kI : ∀ c, c ≠ 1 → c ≠ 16 + 5 * u → c ≠ 16 + 5 * u + 1 → c ≠ 16 + 5 * u + 2 → c ≠ 26 → c ≠ 27 → c ≠ 28 → c ≠ 88 → c ≠ 89 → K c = I c := fun c c0 c1 c2 c3 c4 c5 c6 c7 c8 => by rw [kc c c7 c8, hJ c c0 c1 c2 c3 c4 c5 c6]
        have hst : ∀ s, s < 8 → K (hT C s) = I (hT C s) := fun s hs => by
          have hg := h.gT hs
          have hh : ∀ r, r < 107 → ¬ (xtab r).1 < 7 → hT C s ≠ r := fun r a b => st_ne hg a b
          have hu5 : ∀ d, d < 3 → hT C s ≠ 16 + 5 * u + d := fun d hd => by
            rcases (show u = 0 ∨ u = 1 by omega) with rfl | rfl <;> rcases (show d = 0 ∨ d = 1 ∨ d = 2 by omega) with rfl | rfl | rfl <;> exact hh _ (by decide) (by decide)
          exact kI _ (hh 1 (by decide) (by decide)) (hu5 0 (by decide)) (hu5 1 (by decide)) (hu5 2 (by decide)) (hh 26 (by decide) (by decide)) (hh 27 (by decide) (by decide)) (hh 28 (by decide) (by decide)) (hh 88 (by decide) (by decide)) (hh 89 (by decide) (by decide))
        have n0 := nS_c (e 0 (by decide) (by omega) (by omega))
        have k882 : K 88 2 = I 88 2 := by rw [q2 88 (by decide), xu_ne (by decide), hv 2 (by decide), xu_ne (by decide), h88]
        have k8821 : K 88 21 = I 88 21 := by rw [q2 88 (by decide), xu_ne (by decide), hv 21 (by decide), xu_ne (by decide), h88]
        refine h.wallz ?_ k882 k8821 ⟨?_, ?_, ?_, ?_, ?_, ?_⟩
        · intro c c1 c2 c3 c4
          have hh : ∀ x, x ∈ SCR → c ≠ x := fun x hx e => c1 (e ▸ hx)
          have hw : ∀ x, x ∈ wcs 1 → c ≠ x := fun x hx e => c3 (e ▸ hx)
          have hu5 : ∀ d, d < 3 → c ≠ 16 + 5 * u + d := fun d hd => by
            rcases (show u = 0 ∨ u = 1 by omega) with rfl | rfl <;> rcases (show d = 0 ∨ d = 1 ∨ d = 2 by omega) with rfl | rfl | rfl <;> exact hw _ (by decide)
          exact kI c (hw 1 (by decide)) (hu5 0 (by decide)) (hu5 1 (by decide)) (hu5 2 (by decide)) (hh 26 (by decide)) (hh 27 (by decide)) (hh 28 (by decide)) (hh 88 (by decide)) c2
        · exact z1.c (e _ (by decide) (by omega) (by omega)) (fun k _ _ => e _ (by omega) (by omega) (by omega)) (k1' _ (by decide)) hst
        · exact z2.c (by omega) (e _ (by decide) (by omega) (by omega)) (fun k _ _ => e _ (by omega) (by omega) (by omega)) (k1' _ (by decide)) (kI _ (by omega) (by omega) (by omega) (by omega) (by omega) (by omega) (by omega) (by omega) (by omega)) (kI _ (by omega) (by omega) (by omega) (by omega) (by omega) (by omega) (by omega) (by omega) (by omega)) (kI _ (by omega) (by omega) (by omega) (by omega) (by omega) (by omega) (by omega) (by omega) (by omega))
        · have en : nT (K 89) = 0 := nT_v e3 (by omega)
          exact ⟨⟨by rw [en, e3], by omega⟩, fun j hj => by omega, by rw [k17, e3]⟩
        · exact z4.c (e _ (by decide) (by omega) (by omega)) (fun k _ _ => e _ (by omega) (by omega) (by omega)) (k1' _ (by decide)) (kI _ (by omega) (by omega) (by omega) (by omega) (by omega) (by omega) (by omega) (by omega) (by omega))
        · -- the texts
          have t97 : tl (K 89) u = len := by unfold tl; rw [e97, nI_clamp (by omega)]
          have hpt : pT (bt (K 89) u) len u = .inr (st, len) := by
            rw [pT_c (b' := fun j => I 89 (219 + j)) (fun j hj => by unfold bt; rw [if_pos (by omega), eb j hj])]
            exact hp
          have hWT : WT (K 89) u := by
            refine ⟨by rw [t97, e97], by omega, fun j hj => ?_, fun _ => ⟨st, by rw [t97]; exact hpt⟩⟩
            rw [t97] at hj
            unfold bt
            rw [if_pos (by omega), eb j hj]
            exact (y3 j hj).1
          have hn1 : ∀ k, N (16 + 5 * u) k = xu M (16 + 5 * u) 2 (M 26 2) (16 + 5 * u) k := fun k => by rw [n2 _ (by omega) (by omega)]
          have hrT : rT K (16 + 5 * u) (K 89) u := by
            refine ⟨fun e => by omega, fun _ => ⟨st, by rw [t97]; exact hpt, ?_, hl50, hl1, fun j hj => ?_⟩⟩
            · rw [kc _ (by omega) (by omega), ← hJe, xu_qn (by omega), hn1, xu_rr, m2]
            · rw [kc _ (by omega) (by omega), kc _ (by omega) (by omega), ← hJe, xu_qn (by omega), xu_qn (by omega), (n4 j (by omega) hj).1, (n4 j (by omega) hj).2, xu_qn (by omega), xu_qn (by omega)]
              exact m3 j hj
          obtain ⟨x1, x2, x3, x4⟩ := z5
          rcases (show u = 0 ∨ u = 1 by omega) with rfl | rfl
          · refine ⟨hWT, x2.c (e _ (by decide) (by decide) (by omega)) (fun j hj => e _ (by omega) (by omega) (by omega)), hrT, (x4.fr ?_ ?_ ?_).c (e _ (by decide) (by decide) (by omega)) (fun j hj => e _ (by omega) (by omega) (by omega))⟩
            · exact kI _ (by omega) (by omega) (by omega) (by omega) (by omega) (by omega) (by omega) (by omega) (by omega)
            · exact kI _ (by omega) (by omega) (by omega) (by omega) (by omega) (by omega) (by omega) (by omega) (by omega)
            · exact kI _ (by omega) (by omega) (by omega) (by omega) (by omega) (by omega) (by omega) (by omega) (by omega)
          · refine ⟨x1.c (e _ (by decide) (by decide) (by omega)) (fun j hj => e _ (by omega) (by omega) (by omega)), hWT, (x3.fr ?_ ?_ ?_).c (e _ (by decide) (by decide) (by omega)) (fun j hj => e _ (by omega) (by omega) (by omega)), hrT⟩
            · exact kI _ (by omega) (by omega) (by omega) (by omega) (by omega) (by omega) (by omega) (by omega) (by omega)
            · exact kI _ (by omega) (by omega) (by omega) (by omega) (by omega) (by omega) (by omega) (by omega) (by omega)
            · exact kI _ (by omega) (by omega) (by omega) (by omega) (by omega) (by omega) (by omega) (by omega) (by omega)
        · rw [k1' _ (by decide), e _ (by decide) (by omega) (by omega)]; exact z6
  · have hx' : ¬ (0 ≤ x.toInt ∧ x.toInt ≤ (1 : Int32).toInt) := hx
    simp only [if_neg hx, if_neg hx', if_pos rfl]
    exact err2 h (k := 1) (by decide) (by decide) rfl
end RM
