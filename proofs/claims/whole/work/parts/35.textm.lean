/-! how the reference works a text out -/
def MS (b : Nat → Int32) (len u bs : Nat) (na nb nc nd : Int32) (o : Nat) (I : HI) (p : Nat) : Prop :=
  I 88 4 = nI bs ∧ I 88 5 = nI p ∧ I 88 6 = nI len ∧ I 88 7 = -1 ∧ I 88 8 = nI o ∧ I 88 9 = nI (if u = 0 then 0 else 1) ∧ (∀ j, j < len → I 89 (bs + j) = b j) ∧ I 92 0 = na ∧ I 92 1 = nb ∧ I 92 2 = nc ∧ I 92 3 = nd
def mOK (b : Nat → Int32) (len u bs : Nat) (na nb nc nd : Int32) (o : Nat) (X : Nat → TRes) (R : HI → Option (Int32 × HI)) : Prop :=
  ∀ I p, p ≤ len → MS b len u bs na nb nc nd o I p → (∀ f, X p = .inl f → ∃ v J, R I = some (v, J) ∧ J 88 7 = nI f) ∧ (∀ st q, X p = .inr (st, q) → ∃ v J, R I = some (v, J) ∧ Ev na nb nc nd st v ∧ MS b len u bs na nb nc nd o J q)
theorem lvl_cases (c : Int32) : ((c = 37 ∨ c = 42 ∨ c = 47) ∧ M_Text_levelOf c = 4) ∨ (c = 38 ∧ M_Text_levelOf c = 1) ∨ ((c = 43 ∨ c = 45) ∧ M_Text_levelOf c = 3) ∨ ((c = 60 ∨ c = 61 ∨ c = 62) ∧ M_Text_levelOf c = 2) ∨ (c = 124 ∧ M_Text_levelOf c = 0) ∨ ((c ≠ 37 ∧ c ≠ 42 ∧ c ≠ 47 ∧ c ≠ 38 ∧ c ≠ 43 ∧ c ≠ 45 ∧ c ≠ 60 ∧ c ≠ 61 ∧ c ≠ 62 ∧ c ≠ 124) ∧ M_Text_levelOf c = -1) := by
  by_cases h1 : c = 37
  · subst h1; exact Or.inl ⟨Or.inl rfl, rfl⟩
  by_cases h2 : c = 42
  · subst h2; exact Or.inl ⟨Or.inr (Or.inl rfl), rfl⟩
  by_cases h3 : c = 47
  · subst h3; exact Or.inl ⟨Or.inr (Or.inr rfl), rfl⟩
  by_cases h4 : c = 38
  · subst h4; exact Or.inr (Or.inl ⟨rfl, rfl⟩)
  by_cases h5 : c = 43
  · subst h5; exact Or.inr (Or.inr (Or.inl ⟨Or.inl rfl, rfl⟩))
  by_cases h6 : c = 45
  · subst h6; exact Or.inr (Or.inr (Or.inl ⟨Or.inr rfl, rfl⟩))
  by_cases h7 : c = 60
  · subst h7; exact Or.inr (Or.inr (Or.inr (Or.inl ⟨Or.inl rfl, rfl⟩)))
  by_cases h8 : c = 61
  · subst h8; exact Or.inr (Or.inr (Or.inr (Or.inl ⟨Or.inr (Or.inl rfl), rfl⟩)))
  by_cases h9 : c = 62
  · subst h9; exact Or.inr (Or.inr (Or.inr (Or.inl ⟨Or.inr (Or.inr rfl), rfl⟩)))
  by_cases h10 : c = 124
  · subst h10; exact Or.inr (Or.inr (Or.inr (Or.inr (Or.inl ⟨rfl, rfl⟩))))
  refine Or.inr (Or.inr (Or.inr (Or.inr (Or.inr ⟨⟨h1, h2, h3, h4, h5, h6, h7, h8, h9, h10⟩, ?_⟩))))
  unfold M_Text_levelOf
  rw [if_neg h1, if_neg h4, if_neg h2, if_neg h5, if_neg h6, if_neg h3, if_neg h7, if_neg h8, if_neg h9, if_neg h10]
theorem lvl1 {c : Int32} (he : M_Text_levelOf c = 1) : c = 38 := by
  rcases lvl_cases c with ⟨-, h2⟩ | ⟨h1, -⟩ | ⟨-, h2⟩ | ⟨-, h2⟩ | ⟨-, h2⟩ | ⟨-, h2⟩
  · rw [he] at h2; exact absurd h2 (by decide)
  · exact h1
  all_goals (rw [he] at h2; exact absurd h2 (by decide))
theorem lvl0 {c : Int32} (he : M_Text_levelOf c = 0) : c = 124 := by
  rcases lvl_cases c with ⟨-, h2⟩ | ⟨-, h2⟩ | ⟨-, h2⟩ | ⟨-, h2⟩ | ⟨h1, -⟩ | ⟨-, h2⟩
  · rw [he] at h2; exact absurd h2 (by decide)
  · rw [he] at h2; exact absurd h2 (by decide)
  · rw [he] at h2; exact absurd h2 (by decide)
  · rw [he] at h2; exact absurd h2 (by decide)
  · exact h1
  · rw [he] at h2; exact absurd h2 (by decide)
section TM
variable {b : Nat → Int32} {len u bs o : Nat} {na nb nc nd : Int32} {X : Nat → TRes} {I : HI} {p : Nat} {R : HI → Option (Int32 × HI)}
theorem here_m (h50 : len ≤ 50) (hbs : bs + len ≤ 270) (hp : p ≤ len) (h : MS b len u bs na nb nc nd o I p) : M_Model_here I = some (tch b len p) := by
  obtain ⟨h1, h2, h3, h4, h5, h6, h7, -⟩ := h
  unfold M_Model_here
  rw [h2, h3, h4]
  rcases Nat.lt_or_ge p len with hl | hl
  · rw [if_neg (nI_ge hl (by omega)), if_neg (by decide), h1, nI_add, grd_t (bnd_nI (by omega) (by omega)), nI_clamp (by omega), h7 p hl, tch_in hl]
  · rw [if_pos (nI_le hl (by omega)), tch_m1 hl]
theorem here_f {f : Nat} (hf : f ≤ 50) (h : I 88 7 = nI f) : M_Model_here I = some (-1) := by
  unfold M_Model_here
  by_cases h1 : I 88 6 ≤ I 88 5
  · rw [if_pos h1]
  · rw [if_neg h1, h, if_pos (nI_pos' (by omega))]
theorem ms_next (h : MS b len u bs na nb nc nd o I p) : MS b len u bs na nb nc nd o (xu I 88 5 (I 88 5 + 1)) (p + 1) := by
  obtain ⟨h1, h2, h3, h4, h5, h6, h7, h8, h9, h10, h11⟩ := h
  refine ⟨?_, ?_, ?_, ?_, ?_, ?_, fun j hj => ?_, ?_, ?_, ?_, ?_⟩
  · rw [xu_rn (by decide)]; exact h1
  · rw [xu_rr, h2]; exact nI_1 p
  · rw [xu_rn (by decide)]; exact h3
  · rw [xu_rn (by decide)]; exact h4
  · rw [xu_rn (by decide)]; exact h5
  · rw [xu_rn (by decide)]; exact h6
  · rw [xu_qn (by decide)]; exact h7 j hj
  · rw [xu_qn (by decide)]; exact h8
  · rw [xu_qn (by decide)]; exact h9
  · rw [xu_qn (by decide)]; exact h10
  · rw [xu_qn (by decide)]; exact h11
theorem ms_open {v : Int32} {o' : Nat} (h : MS b len u bs na nb nc nd o I p) (hv : v = nI o') : MS b len u bs na nb nc nd o' (xu I 88 8 v) p := by
  obtain ⟨h1, h2, h3, h4, h5, h6, h7, h8, h9, h10, h11⟩ := h
  refine ⟨?_, ?_, ?_, ?_, ?_, ?_, fun j hj => ?_, ?_, ?_, ?_, ?_⟩
  · rw [xu_rn (by decide)]; exact h1
  · rw [xu_rn (by decide)]; exact h2
  · rw [xu_rn (by decide)]; exact h3
  · rw [xu_rn (by decide)]; exact h4
  · rw [xu_rr]; exact hv
  · rw [xu_rn (by decide)]; exact h6
  · rw [xu_qn (by decide)]; exact h7 j hj
  · rw [xu_qn (by decide)]; exact h8
  · rw [xu_qn (by decide)]; exact h9
  · rw [xu_qn (by decide)]; exact h10
  · rw [xu_qn (by decide)]; exact h11
theorem wrong_f {f : Nat} (hf : f ≤ 50) (h : I 88 7 = nI f) : ∃ J, M_Model_wrong I = (0, J) ∧ J 88 7 = nI f := by
  unfold M_Model_wrong
  rw [h, if_pos (nI_pos' (by omega))]
  exact ⟨_, rfl, by rw [xu_rr]⟩
theorem wrong_m (h : MS b len u bs na nb nc nd o I p) : ∃ J, M_Model_wrong I = (0, J) ∧ J 88 7 = nI p := by
  unfold M_Model_wrong
  rw [h.2.2.2.1, if_neg (by decide)]
  exact ⟨_, rfl, by rw [xu_rr]; exact h.2.1⟩
/-! products -/
theorem p_f {f g : Nat} {v : Int32} (hf : f ≤ 50) (h : I 88 7 = nI f) : L_Model_product_5 R (g + 1) v I = some (v, I) := by
  rw [L_Model_product_5]
  simp only [here_f hf h, Option.bind_some]
  rw [if_neg (by decide), if_neg (by decide), if_neg (by decide)]
theorem p_end {g : Nat} {v c : Int32} (h : M_Model_here I = some c) (h1 : c ≠ 42) (h2 : c ≠ 47) (h3 : c ≠ 37) : L_Model_product_5 R (g + 1) v I = some (v, I) := by
  rw [L_Model_product_5]
  simp only [h, Option.bind_some]
  rw [if_neg h1, if_neg h2, if_neg h3]
theorem p_step {g : Nat} {v c : Int32} {r : Int32 × HI} (h : M_Model_here I = some c) (hc : c = 37 ∨ c = 42 ∨ c = 47) (hr : R (xu I 88 5 (I 88 5 + 1)) = some r) : L_Model_product_5 R (g + 1) v I = L_Model_product_5 R g (jn c v r.1) r.2 := by
  rw [L_Model_product_5]
  simp only [h, Option.bind_some, lt_def, hr]
  rcases hc with rfl | rfl | rfl
  · rw [if_neg (by decide), if_neg (by decide), if_pos rfl, if_neg (by decide)]
    show _ = L_Model_product_5 R g (if r.1 = 0 then 0 else v - v / r.1 * r.1) r.2
    by_cases h0 : r.1 = 0
    · rw [if_pos h0, if_pos h0]
    · rw [if_neg h0, if_neg h0, if_neg (by decide), grd_t (decide_eq_true h0)]
  · rw [if_pos rfl, if_pos rfl]; rfl
  · rw [if_neg (by decide), if_pos rfl, if_neg (by decide)]
    show _ = L_Model_product_5 R g (if r.1 = 0 then 0 else v / r.1) r.2
    by_cases h0 : r.1 = 0
    · rw [if_pos h0, if_pos h0]
    · rw [if_neg h0, if_neg h0, if_pos rfl, grd_t (decide_eq_true h0)]
/-- a level's loop F over R, by its three rules -/
theorem m_loop {F : Nat → Int32 → HI → Option (Int32 × HI)} {x : Int32} (h50 : len ≤ 50) (hbs : bs + len ≤ 270) (hx : 0 ≤ x) (hx2 : x ≠ 2) (hX : gX len X) (hR : mOK b len u bs na nb nc nd o X R)
    (ff : ∀ {I : HI} {f g : Nat} {v : Int32}, f ≤ 50 → I 88 7 = nI f → F (g + 1) v I = some (v, I))
    (fe : ∀ {I : HI} {g p : Nat} {v : Int32}, p ≤ len → MS b len u bs na nb nc nd o I p → M_Text_levelOf (tch b len p) ≠ x → F (g + 1) v I = some (v, I))
    (fs : ∀ {I : HI} {g p : Nat} {v : Int32} {r : Int32 × HI}, p ≤ len → MS b len u bs na nb nc nd o I p → M_Text_levelOf (tch b len p) = x → R (xu I 88 5 (I 88 5 + 1)) = some r → F (g + 1) v I = F g (jn (tch b len p) v r.1) r.2) :
    ∀ (k f : Nat) (acc : List TStp) (v : Int32) (I : HI) (p : Nat), len - p < k → len - p < f → p ≤ len → Ev na nb nc nd acc v → MS b len u bs na nb nc nd o I p →
      (∀ f', layl b len x X k acc p = .inl f' → ∃ v' J, F f v I = some (v', J) ∧ J 88 7 = nI f') ∧ (∀ st q, layl b len x X k acc p = .inr (st, q) → ∃ v' J, F f v I = some (v', J) ∧ Ev na nb nc nd st v' ∧ MS b len u bs na nb nc nd o J q) := by
  intro k
  induction k with
  | zero => intro f acc v I p h; omega
  | succ k ih =>
    intro f acc v I p hk hf hp hv h
    cases f with
    | zero => omega
    | succ f =>
      unfold layl
      by_cases h1 : M_Text_levelOf (tch b len p) = x
      · rw [if_pos h1]
        have hlt : p < len := lt_of_tch (b := b) (by intro h2; rw [h2] at h1; rw [← h1] at hx; exact absurd hx (by decide))
        obtain ⟨c1, c2⟩ := hR _ (p + 1) hlt (ms_next h)
        have hxx := hX (p + 1) hlt
        cases hr : X (p + 1) with
        | inl g =>
          obtain ⟨w, J, j1, j2⟩ := c1 g hr
          have hg := hxx.1 g hr
          refine ⟨fun f' h' => ?_, fun st q h' => (by cases h')⟩
          cases h'
          rw [fs hp h h1 j1]
          cases f with
          | zero => omega
          | succ f => exact ⟨_, J, ff (by omega) j2, j2⟩
        | inr r =>
          obtain ⟨st, q⟩ := r
          obtain ⟨w, J, j1, j2, j3⟩ := c2 st q hr
          have hg := hxx.2 st q hr
          dsimp only
          rw [if_neg hx2, fs hp h h1 j1]
          refine ih f _ _ J q (by omega) (by omega) hg.2.1 (Ev.bin ?_ ?_ ?_ hv j2) j3
          · intro e; rw [e] at h1; rw [← h1] at hx; exact absurd hx (by decide)
          · intro e; rw [e] at h1; rw [← h1] at hx; exact absurd hx (by decide)
          · intro e; rw [e] at h1; rw [← h1] at hx; exact absurd hx (by decide)
      · rw [if_neg h1]
        refine ⟨fun f' h => (by cases h), fun st q h' => ?_⟩
        cases h'
        exact ⟨v, I, fe hp h h1, hv, h⟩
theorem lev_m {F : Nat → Int32 → HI → Option (Int32 × HI)} {x : Int32} (h50 : len ≤ 50) (hX : gX len X) (hR : mOK b len u bs na nb nc nd o X R)
    (ff : ∀ {I : HI} {f g : Nat} {v : Int32}, f ≤ 50 → I 88 7 = nI f → F (g + 1) v I = some (v, I))
    (hl : ∀ (k f : Nat) (acc : List TStp) (v : Int32) (I : HI) (p : Nat), len - p < k → len - p < f → p ≤ len → Ev na nb nc nd acc v → MS b len u bs na nb nc nd o I p →
      (∀ f', layl b len x X k acc p = .inl f' → ∃ v' J, F f v I = some (v', J) ∧ J 88 7 = nI f') ∧ (∀ st q, layl b len x X k acc p = .inr (st, q) → ∃ v' J, F f v I = some (v', J) ∧ Ev na nb nc nd st v' ∧ MS b len u bs na nb nc nd o J q)) :
    mOK b len u bs na nb nc nd o (lev b len x X) (fun I => Option.bind (R I) fun p1 => Option.bind (F 1000 p1.1 p1.2) fun p2 => some (p2.1, p2.2)) := by
  intro I p hp h
  dsimp only
  obtain ⟨c1, c2⟩ := hR I p hp h
  have hx := hX p hp
  unfold lev
  cases hr : X p with
  | inl g =>
    obtain ⟨w, J, j1, j2⟩ := c1 g hr
    have hg := hx.1 g hr
    rw [j1, Option.bind_some]
    dsimp only
    rw [ff (g := 999) (by omega) j2, Option.bind_some]
    refine ⟨fun f' h' => ?_, fun st q h' => (by cases h')⟩
    cases h'
    exact ⟨w, J, rfl, j2⟩
  | inr r =>
    obtain ⟨st, q⟩ := r
    obtain ⟨w, J, j1, j2, j3⟩ := c2 st q hr
    have hg := hx.2 st q hr
    rw [j1, Option.bind_some]
    dsimp only
    obtain ⟨d1, d2⟩ := hl 51 1000 st w J q (by omega) (by omega) hg.2.1 j2 j3
    refine ⟨fun f' h' => ?_, fun st' q' h' => ?_⟩
    · obtain ⟨v', K, k1, k2⟩ := d1 f' h'
      rw [k1, Option.bind_some]
      exact ⟨v', K, rfl, k2⟩
    · obtain ⟨v', K, k1, k2⟩ := d2 st' q' h'
      rw [k1, Option.bind_some]
      exact ⟨v', K, rfl, k2⟩
theorem product_m (h50 : len ≤ 50) (hbs : bs + len ≤ 270) (hX : gX len X) (hR : mOK b len u bs na nb nc nd o X R) : mOK b len u bs na nb nc nd o (lev b len 4 X) (M_Model_product R) := by
  refine lev_m (F := L_Model_product_5 R) h50 hX hR (fun hf h => p_f hf h) (m_loop h50 hbs (by decide) (by decide) hX hR (fun hf h => p_f hf h) (fun hp h hne => ?_) (fun hp h he hr => ?_))
  · refine p_end (here_m h50 hbs hp h) ?_ ?_ ?_ <;> (intro e; rw [e] at hne; exact hne rfl)
  · refine p_step (here_m h50 hbs hp h) ?_ hr
    rcases lvl_cases (tch b len _) with ⟨h1, -⟩ | ⟨-, h2⟩ | ⟨-, h2⟩ | ⟨-, h2⟩ | ⟨-, h2⟩ | ⟨-, h2⟩
    · exact h1
    all_goals (rw [he] at h2; exact absurd h2 (by decide))
/-! sums -/
theorem s_f {f g : Nat} {v : Int32} (hf : f ≤ 50) (h : I 88 7 = nI f) : L_Model_sum_5 R (g + 1) v I = some (v, I) := by
  rw [L_Model_sum_5]
  simp only [here_f hf h, Option.bind_some]
  rw [if_neg (by decide), if_neg (by decide)]
theorem s_end {g : Nat} {v c : Int32} (h : M_Model_here I = some c) (h1 : c ≠ 43) (h2 : c ≠ 45) : L_Model_sum_5 R (g + 1) v I = some (v, I) := by
  rw [L_Model_sum_5]
  simp only [h, Option.bind_some]
  rw [if_neg h1, if_neg h2]
theorem s_step {g : Nat} {v c : Int32} {r : Int32 × HI} (h : M_Model_here I = some c) (hc : c = 43 ∨ c = 45) (hr : M_Model_product R (xu I 88 5 (I 88 5 + 1)) = some r) : L_Model_sum_5 R (g + 1) v I = L_Model_sum_5 R g (jn c v r.1) r.2 := by
  rw [L_Model_sum_5]
  simp only [h, Option.bind_some, lt_def, hr]
  rcases hc with rfl | rfl
  · rw [if_pos rfl, if_pos rfl]; rfl
  · rw [if_neg (by decide), if_pos rfl, if_neg (by decide)]; rfl
theorem sum_m (h50 : len ≤ 50) (hbs : bs + len ≤ 270) (hX : gX len X) (hR : mOK b len u bs na nb nc nd o X R) : mOK b len u bs na nb nc nd o (lev b len 3 (lev b len 4 X)) (M_Model_sum R) := by
  have hX4 : gX len (lev b len 4 X) := g_lev (by decide) h50 hX
  have hP := product_m h50 hbs hX hR
  refine lev_m (F := L_Model_sum_5 R) h50 hX4 hP (fun hf h => s_f hf h) (m_loop h50 hbs (by decide) (by decide) hX4 hP (fun hf h => s_f hf h) (fun hp h hne => ?_) (fun hp h he hr => ?_))
  · refine s_end (here_m h50 hbs hp h) ?_ ?_ <;> (intro e; rw [e] at hne; exact hne rfl)
  · refine s_step (here_m h50 hbs hp h) ?_ hr
    rcases lvl_cases (tch b len _) with ⟨-, h2⟩ | ⟨-, h2⟩ | ⟨h1, -⟩ | ⟨-, h2⟩ | ⟨-, h2⟩ | ⟨-, h2⟩
    · rw [he] at h2; exact absurd h2 (by decide)
    · rw [he] at h2; exact absurd h2 (by decide)
    · exact h1
    all_goals (rw [he] at h2; exact absurd h2 (by decide))
/-! comparisons -/
theorem compared_m (h50 : len ≤ 50) (hbs : bs + len ≤ 270) (hX : gX len X) (hR : mOK b len u bs na nb nc nd o X R) : mOK b len u bs na nb nc nd o (lev b len 2 (lev b len 3 (lev b len 4 X))) (M_Model_compared R) := by
  have hX3 : gX len (lev b len 3 (lev b len 4 X)) := g_lev (by decide) h50 (g_lev (by decide) h50 hX)
  have hS := sum_m h50 hbs hX hR
  intro I p hp h
  obtain ⟨c1, c2⟩ := hS I p hp h
  have hx := hX3 p hp
  unfold M_Model_compared
  rw [lev]
  cases hr : lev b len 3 (lev b len 4 X) p with
  | inl g =>
    obtain ⟨w, J, j1, j2⟩ := c1 g hr
    have hg := hx.1 g hr
    rw [j1, Option.bind_some]
    dsimp only
    rw [here_f (by omega) j2, Option.bind_some, if_neg (by decide), if_neg (by decide), if_neg (by decide)]
    refine ⟨fun f' h' => ?_, fun st q h' => (by cases h')⟩
    cases h'
    exact ⟨w, J, rfl, j2⟩
  | inr r =>
    obtain ⟨st, q⟩ := r
    obtain ⟨w, J, j1, j2, j3⟩ := c2 st q hr
    have hg := hx.2 st q hr
    rw [j1, Option.bind_some]
    dsimp only
    rw [here_m h50 hbs hg.2.1 j3, Option.bind_some, layl]
    by_cases h1 : M_Text_levelOf (tch b len q) = 2
    · have hc : tch b len q = 60 ∨ tch b len q = 61 ∨ tch b len q = 62 := by
        rcases lvl_cases (tch b len q) with ⟨-, h2⟩ | ⟨-, h2⟩ | ⟨-, h2⟩ | ⟨h0, -⟩ | ⟨-, h2⟩ | ⟨-, h2⟩
        · rw [h1] at h2; exact absurd h2 (by decide)
        · rw [h1] at h2; exact absurd h2 (by decide)
        · rw [h1] at h2; exact absurd h2 (by decide)
        · exact h0
        all_goals (rw [h1] at h2; exact absurd h2 (by decide))
      have hlt : q < len := lt_of_tch (b := b) (by rintro h2; rw [h2] at hc; exact absurd hc (by decide))
      rw [if_pos h1]
      obtain ⟨e1, e2⟩ := hS _ (q + 1) hlt (ms_next j3)
      have hx2 := hX3 (q + 1) hlt
      have hop : ∀ (w' : Int32) (K : HI), M_Model_sum R (xu J 88 5 (J 88 5 + 1)) = some (w', K) → (if tch b len q = 60 then lt (xu J 88 5 (J 88 5 + 1)) fun J4 => Option.bind (M_Model_sum R J4) fun p5 => if p5.1 ≤ w then some ((0 : Int32), p5.2) else some ((1 : Int32), p5.2) else if tch b len q = 61 then lt (xu J 88 5 (J 88 5 + 1)) fun J8 => Option.bind (M_Model_sum R J8) fun p9 => if w = p9.1 then some ((1 : Int32), p9.2) else some ((0 : Int32), p9.2) else if tch b len q = 62 then lt (xu J 88 5 (J 88 5 + 1)) fun J12 => Option.bind (M_Model_sum R J12) fun p13 => if w ≤ p13.1 then some ((0 : Int32), p13.2) else some ((1 : Int32), p13.2) else some (w, J)) = some (jn (tch b len q) w w', K) := by
        intro w' K hk
        simp only [lt_def, hk, Option.bind_some]
        rcases hc with e | e | e
        · rw [e, if_pos rfl]
          show _ = some ((if w' ≤ w then 0 else 1), K)
          by_cases h0 : w' ≤ w
          · rw [if_pos h0, if_pos h0]
          · rw [if_neg h0, if_neg h0]
        · rw [e, if_neg (by decide), if_pos rfl]
          show _ = some ((if w = w' then 1 else 0), K)
          by_cases h0 : w = w'
          · rw [if_pos h0, if_pos h0]
          · rw [if_neg h0, if_neg h0]
        · rw [e, if_neg (by decide), if_neg (by decide), if_pos rfl]
          show _ = some ((if w ≤ w' then 0 else 1), K)
          by_cases h0 : w ≤ w'
          · rw [if_pos h0, if_pos h0]
          · rw [if_neg h0, if_neg h0]
      cases hr2 : lev b len 3 (lev b len 4 X) (q + 1) with
      | inl g =>
        obtain ⟨w', K, k1, k2⟩ := e1 g hr2
        refine ⟨fun f' h' => ?_, fun st q h' => (by cases h')⟩
        cases h'
        exact ⟨_, K, hop w' K k1, k2⟩
      | inr r =>
        obtain ⟨st2, q2⟩ := r
        obtain ⟨w', K, k1, k2, k3⟩ := e2 st2 q2 hr2
        dsimp only
        rw [if_pos rfl]
        refine ⟨fun f' h' => (by cases h'), fun st' q' h' => ?_⟩
        cases h'
        refine ⟨_, K, hop w' K k1, Ev.bin ?_ ?_ ?_ j2 k2, k3⟩
        · intro e; rw [e] at hc; exact absurd hc (by decide)
        · intro e; rw [e] at hc; exact absurd hc (by decide)
        · intro e; rw [e] at hc; exact absurd hc (by decide)
    · rw [if_neg h1]
      have n60 : tch b len q ≠ 60 := by intro e; rw [e] at h1; exact h1 rfl
      have n61 : tch b len q ≠ 61 := by intro e; rw [e] at h1; exact h1 rfl
      have n62 : tch b len q ≠ 62 := by intro e; rw [e] at h1; exact h1 rfl
      rw [if_neg n60, if_neg n61, if_neg n62]
      refine ⟨fun f' h => (by cases h), fun st q h' => ?_⟩
      cases h'
      exact ⟨w, J, rfl, j2, j3⟩
/-! both, either -/
theorem takes_n {c d : Int32} (h : M_Model_here I = some c) (hc : c ≠ d) : M_Model_takes I d = some (0, I) := by
  unfold M_Model_takes
  rw [h, Option.bind_some, if_neg hc]
theorem takes_y {d : Int32} (h : M_Model_here I = some d) : M_Model_takes I d = some (1, xu I 88 5 (I 88 5 + 1)) := by
  unfold M_Model_takes
  rw [h, Option.bind_some, if_pos rfl]
  rfl
theorem b_step {g : Nat} {v : Int32} {r : Int32 × HI} (h : M_Model_here I = some 38) (hr : M_Model_compared R (xu I 88 5 (I 88 5 + 1)) = some r) : L_Model_both_5 R (g + 1) v I = L_Model_both_5 R g (jn 38 v r.1) r.2 := by
  rw [L_Model_both_5, takes_y h, Option.bind_some]
  dsimp only
  rw [if_neg one0, hr, Option.bind_some]
  show _ = L_Model_both_5 R g (if v = 0 then 0 else if r.1 = 0 then 0 else 1) r.2
  by_cases h0 : v = 0
  · rw [if_pos h0, if_pos h0]
  · rw [if_neg h0, if_neg h0]
    by_cases h1 : r.1 = 0
    · rw [if_pos h1, if_pos h1]
    · rw [if_neg h1, if_neg h1]
theorem b_end {g : Nat} {v c : Int32} (h : M_Model_here I = some c) (h1 : c ≠ 38) : L_Model_both_5 R (g + 1) v I = some (v, I) := by
  rw [L_Model_both_5, takes_n h h1, Option.bind_some]
  dsimp only
  rw [if_pos rfl]
theorem both_m (h50 : len ≤ 50) (hbs : bs + len ≤ 270) (hX : gX len X) (hR : mOK b len u bs na nb nc nd o X R) : mOK b len u bs na nb nc nd o (lev b len 1 (lev b len 2 (lev b len 3 (lev b len 4 X)))) (M_Model_both R) := by
  have hX2 : gX len (lev b len 2 (lev b len 3 (lev b len 4 X))) := g_lev (by decide) h50 (g_lev (by decide) h50 (g_lev (by decide) h50 hX))
  have hC := compared_m h50 hbs hX hR
  have ff : ∀ {I : HI} {f g : Nat} {v : Int32}, f ≤ 50 → I 88 7 = nI f → L_Model_both_5 R (g + 1) v I = some (v, I) := fun hf h => b_end (here_f hf h) (by decide)
  refine lev_m (F := L_Model_both_5 R) h50 hX2 hC ff (m_loop h50 hbs (by decide) (by decide) hX2 hC ff (fun hp h hne => ?_) (fun hp h he hr => ?_))
  · refine b_end (here_m h50 hbs hp h) ?_
    intro e; rw [e] at hne; exact hne rfl
  · have hc := lvl1 he
    rw [hc]
    exact b_step (by rw [here_m h50 hbs hp h, hc]) hr
theorem e_step {g : Nat} {v : Int32} {r : Int32 × HI} (h : M_Model_here I = some 124) (hr : M_Model_both R (xu I 88 5 (I 88 5 + 1)) = some r) : L_Model_either_5 R (g + 1) v I = L_Model_either_5 R g (jn 124 v r.1) r.2 := by
  rw [L_Model_either_5, takes_y h, Option.bind_some]
  dsimp only
  rw [if_neg one0, hr, Option.bind_some]
  show _ = L_Model_either_5 R g (if v = 0 then (if r.1 = 0 then 0 else 1) else 1) r.2
  by_cases h0 : v = 0
  · rw [if_pos h0, if_pos h0]
    by_cases h1 : r.1 = 0
    · rw [if_pos h1, if_pos h1]
    · rw [if_neg h1, if_neg h1]
  · rw [if_neg h0, if_neg h0]
theorem e_end {g : Nat} {v c : Int32} (h : M_Model_here I = some c) (h1 : c ≠ 124) : L_Model_either_5 R (g + 1) v I = some (v, I) := by
  rw [L_Model_either_5, takes_n h h1, Option.bind_some]
  dsimp only
  rw [if_pos rfl]
theorem either_m (h50 : len ≤ 50) (hbs : bs + len ≤ 270) (hX : gX len X) (hR : mOK b len u bs na nb nc nd o X R) : mOK b len u bs na nb nc nd o (eX b len X) (M_Model_either R) := by
  have hX1 : gX len (lev b len 1 (lev b len 2 (lev b len 3 (lev b len 4 X)))) := g_lev (by decide) h50 (g_lev (by decide) h50 (g_lev (by decide) h50 (g_lev (by decide) h50 hX)))
  have hC := both_m h50 hbs hX hR
  have ff : ∀ {I : HI} {f g : Nat} {v : Int32}, f ≤ 50 → I 88 7 = nI f → L_Model_either_5 R (g + 1) v I = some (v, I) := fun hf h => e_end (here_f hf h) (by decide)
  refine lev_m (F := L_Model_either_5 R) h50 hX1 hC ff (m_loop h50 hbs (by decide) (by decide) hX1 hC ff (fun hp h hne => ?_) (fun hp h he hr => ?_))
  · refine e_end (here_m h50 hbs hp h) ?_
    intro e; rw [e] at hne; exact hne rfl
  · have hc := lvl0 he
    rw [hc]
    exact e_step (by rw [here_m h50 hbs hp h, hc]) hr
theorem nameOf_m (hd : I 88 9 = nI (if u = 0 then 0 else 1)) (c : Int32) : M_Model_nameOf I c = nmf u c := by
  unfold M_Model_nameOf nmf
  rw [hd]
  by_cases h : u = 0
  · rw [if_pos h, if_pos h, if_pos (by decide)]
  · rw [if_neg h, if_neg h, if_neg (by decide)]
theorem isDm (c : Int32) : M_Model_in c.toInt64 (Int64.ofNat 48) (Int64.ofNat 57) = if isD c = true then 1 else 0 := by
  rw [in_nat c (by decide) (by decide)]
  unfold isD
  have e1 : (48 : Int32) ≤ c ↔ (48 : Int) ≤ c.toInt := i_le
  have e2 : c ≤ 57 ↔ c.toInt ≤ (57 : Int) := i_le
  simp only [Bool.and_eq_true, decide_eq_true_eq, e1, e2]
  rfl
theorem rn_m (h50 : len ≤ 50) (hbs : bs + len ≤ 270) : ∀ (f k : Nat) (v : Int32) (i : Nat) (I : HI) (p : Nat), k + i = 4 → k < f → p ≤ len → MS b len u bs na nb nc nd o I p → ∃ J, L_Model_unit_150 R f v (nI i) I = some ((nml b len k v p).1, nI (i + ((nml b len k v p).2 - p)), J) ∧ MS b len u bs na nb nc nd o J (nml b len k v p).2 := by
  intro f
  induction f with
  | zero => intro k v i I p _ h; omega
  | succ f ih =>
    intro k v i I p hk hf hp h
    rw [L_Model_unit_150]
    cases k with
    | zero =>
      obtain rfl : i = 4 := by omega
      rw [if_pos (by decide)]
      refine ⟨I, ?_, h⟩
      simp [nml]
    | succ k =>
      rw [if_neg (c_nle 4 4 (by omega)), here_m h50 hbs hp h, Option.bind_some, isDm]
      unfold nml
      by_cases hd : isD (tch b len p) = true
      · rw [if_pos hd, if_pos hd, if_neg one0, Option.bind_some]
        have hlt : p < len := lt_of_tch (b := b) (by intro h2; rw [h2] at hd; exact absurd hd (by decide))
        rw [lt_def, nI_1]
        have e : (10 : Int32) * v + tch b len p - 48 = v * 10 + tch b len p - 48 := by rw [Int32.mul_comm]
        rw [e]
        obtain ⟨J, j1, j2⟩ := ih k (v * 10 + tch b len p - 48) (i + 1) _ (p + 1) (by omega) (by omega) hlt (ms_next h)
        refine ⟨J, ?_, j2⟩
        rw [j1]
        have := (g_nml (b := b) (len := len) k (v * 10 + tch b len p - 48) (p + 1) hlt).1
        rw [show i + 1 + ((nml b len k (v * 10 + tch b len p - 48) (p + 1)).2 - (p + 1)) = i + ((nml b len k (v * 10 + tch b len p - 48) (p + 1)).2 - p) by omega]
      · rw [if_neg hd, if_neg hd, if_pos rfl]
        refine ⟨I, ?_, h⟩
        simp
theorem names_m (h : MS b len u bs na nb nc nd o I p) {j : Nat} (hj : j < 4) : I 92 j = M_Text_named (nI j) na nb nc nd := by
  obtain ⟨-, -, -, -, -, -, -, h8, h9, h10, h11⟩ := h
  rcases (show j = 0 ∨ j = 1 ∨ j = 2 ∨ j = 3 by omega) with rfl | rfl | rfl | rfl
  · exact h8
  · exact h9
  · exact h10
  · exact h11
theorem nmf_case (u : Nat) (c : Int32) : (∃ j, j < 4 ∧ nmf u c = nI j) ∨ nmf u c = -1 := by
  unfold nmf
  repeat' split
  all_goals first | exact Or.inl ⟨0, by decide, rfl⟩ | exact Or.inl ⟨1, by decide, rfl⟩ | exact Or.inl ⟨2, by decide, rfl⟩ | exact Or.inl ⟨3, by decide, rfl⟩ | exact Or.inr rfl
theorem nmf_d {c : Int32} (h : isD c = true) : nmf u c = -1 := by
  unfold isD at h
  simp only [Bool.and_eq_true, decide_eq_true_eq] at h
  have n : ∀ d : Int32, 57 < d → c ≠ d := by rintro d hd rfl; exact absurd h.2 (Int32.not_le.mpr hd)
  unfold nmf
  rw [if_neg (n 99 (by decide)), if_neg (n 109 (by decide)), if_neg (n 107 (by decide)), if_neg (n 104 (by decide)), if_neg (n 119 (by decide)), if_neg (n 107 (by decide)), if_neg (n 99 (by decide))]
  split <;> rfl
/-- a leaf, k more may be opened -/
theorem unit_m {k : Nat} (h50 : len ≤ 50) (hbs : bs + len ≤ 270) (hk : k ≤ 5) (h1 : ∀ k', k = k' + 1 → mOK b len u bs na nb nc nd (5 - k + 1) (lf b len u k') R) : mOK b len u bs na nb nc nd (5 - k) (lf b len u k) (M_Model_unit R) := by
  intro I p hp h
  have key : lf b len u k p = lfb b len u (match k with | 0 => .inl p | k' + 1 => nt (lf b len u k' (p + 1))) (match k with | 0 => .inl p | k' + 1 => bk b len (eX b len (lf b len u k') (p + 1))) p := by cases k <;> rfl
  rw [key]
  unfold M_Model_unit lfb
  rw [here_m h50 hbs hp h, Option.bind_some, nameOf_m h.2.2.2.2.2.1, h.2.2.2.2.1]
  have hnodig : tch b len p = 33 ∨ tch b len p = 40 → ¬ isD (tch b len p) = true := by
    rintro (e | e) <;> rw [e] <;> decide
  by_cases h33 : tch b len p = 33
  · rw [if_pos h33, if_neg (hnodig (Or.inl h33)), if_pos h33]
    have hlt : p < len := lt_of_tch (b := b) (by rw [h33]; decide)
    cases k with
    | zero =>
      rw [if_pos (by rfl)]
      obtain ⟨J, j1, j2⟩ := wrong_m h
      rw [lt_def, j1]
      refine ⟨fun f' h' => ?_, fun st q h' => (by cases h')⟩
      cases h'
      exact ⟨0, J, rfl, j2⟩
    | succ k' =>
      rw [if_neg (n_ne 5 5 (by omega))]
      simp only [lt_def]
      rw [h33, if_neg (by decide)]
      have hopen := ms_next (ms_open h (nI_1 (5 - (k' + 1))))
      obtain ⟨c1, c2⟩ := h1 k' rfl _ (p + 1) hlt hopen
      unfold nt
      cases hr : lf b len u k' (p + 1) with
      | inl g =>
        obtain ⟨w, J, j1, j2⟩ := c1 g hr
        rw [j1, Option.bind_some]
        refine ⟨fun f' h' => ?_, fun st q h' => (by cases h')⟩
        cases h'
        dsimp only
        by_cases h0 : w = 0
        · rw [if_pos h0]; exact ⟨1, _, rfl, by rw [xu_rn (by decide)]; exact j2⟩
        · rw [if_neg h0]; exact ⟨0, _, rfl, by rw [xu_rn (by decide)]; exact j2⟩
      | inr r =>
        obtain ⟨st, q⟩ := r
        obtain ⟨w, J, j1, j2, j3⟩ := c2 st q hr
        rw [j1, Option.bind_some]
        have hclose : MS b len u bs na nb nc nd (5 - (k' + 1)) (xu J 88 8 (J 88 8 - 1)) q := ms_open j3 (by rw [j3.2.2.2.2.1]; exact nI_pred _)
        refine ⟨fun f' h' => (by cases h'), fun st' q' h' => ?_⟩
        cases h'
        dsimp only
        refine ⟨if w = 0 then 1 else 0, _, ?_, Ev.not j2, hclose⟩
        by_cases h0 : w = 0
        · rw [if_pos h0, if_pos h0]
        · rw [if_neg h0, if_neg h0]
  · simp only [if_neg h33]
    by_cases h40 : tch b len p = 40
    · simp only [if_pos h40, if_neg (hnodig (Or.inr h40))]
      have hlt : p < len := lt_of_tch (b := b) (by rw [h40]; decide)
      cases k with
      | zero =>
        rw [if_pos (by rfl)]
        obtain ⟨J, j1, j2⟩ := wrong_m h
        rw [lt_def, j1]
        refine ⟨fun f' h' => ?_, fun st q h' => (by cases h')⟩
        cases h'
        exact ⟨0, J, rfl, j2⟩
      | succ k' =>
        rw [if_neg (n_ne 5 5 (by omega))]
        simp only [lt_def]
        have hopen := ms_next (ms_open h (nI_1 (5 - (k' + 1))))
        have hE := either_m h50 hbs (g_lf (b := b) (u := u) h50 k') (h1 k' rfl)
        obtain ⟨c1, c2⟩ := hE _ (p + 1) hlt hopen
        have hx := g_eX (b := b) h50 (g_lf (b := b) (u := u) h50 k') (p + 1) hlt
        unfold bk
        cases hr : eX b len (lf b len u k') (p + 1) with
        | inl g =>
          obtain ⟨w, J, j1, j2⟩ := c1 g hr
          have hg := hx.1 g hr
          rw [j1, Option.bind_some]
          dsimp only
          rw [takes_n (here_f (by omega) j2) (by decide), Option.bind_some]
          dsimp only
          rw [if_pos rfl]
          obtain ⟨K, k1, k2⟩ := wrong_f (by omega) j2
          rw [k1]
          refine ⟨fun f' h' => ?_, fun st q h' => (by cases h')⟩
          cases h'
          exact ⟨0, K, rfl, k2⟩
        | inr r =>
          obtain ⟨st, q⟩ := r
          obtain ⟨w, J, j1, j2, j3⟩ := c2 st q hr
          have hg := hx.2 st q hr
          rw [j1, Option.bind_some]
          dsimp only
          by_cases h41 : tch b len q = 41
          · rw [if_pos h41, takes_y (by rw [here_m h50 hbs hg.2.1 j3, h41]), Option.bind_some]
            dsimp only
            rw [if_neg one0]
            have hn := ms_next j3
            have hclose : MS b len u bs na nb nc nd (5 - (k' + 1)) (xu (xu J 88 5 (J 88 5 + 1)) 88 8 ((xu J 88 5 (J 88 5 + 1)) 88 8 - 1)) (q + 1) := ms_open hn (by rw [hn.2.2.2.2.1]; exact nI_pred _)
            refine ⟨fun f' h' => (by cases h'), fun st' q' h' => ?_⟩
            cases h'
            exact ⟨w, _, rfl, j2, hclose⟩
          · rw [if_neg h41, takes_n (here_m h50 hbs hg.2.1 j3) h41, Option.bind_some]
            dsimp only
            rw [if_pos rfl]
            obtain ⟨K, k1, k2⟩ := wrong_m j3
            rw [k1]
            refine ⟨fun f' h' => ?_, fun st q h' => (by cases h')⟩
            cases h'
            exact ⟨0, K, rfl, k2⟩
    · simp only [if_neg h40]
      by_cases hd : isD (tch b len p) = true
      · rw [if_pos hd, nmf_d hd, if_pos (show (-1 : Int32) < 0 by decide)]
        have hlt : p < len := lt_of_tch (b := b) (by intro h2; rw [h2] at hd; exact absurd hd (by decide))
        obtain ⟨J, j1, j2⟩ := rn_m (R := R) h50 hbs 1000 4 0 0 I p rfl (by decide) hp h
        rw [show (0 : Int32) = nI 0 from rfl] at j1 j2 ⊢
        rw [j1, Option.bind_some]
        dsimp only
        have hn : (nml b len 4 (nI 0) p) = nml b len 3 (nI 0 * 10 + tch b len p - 48) (p + 1) := by rw [nml, if_pos hd]
        have hge := (g_nml (b := b) (len := len) 3 (nI 0 * 10 + tch b len p - 48) (p + 1) hlt)
        rw [← hn] at hge
        rw [show nI 0 = (0 : Int32) from rfl] at hge ⊢
        rw [if_neg (n_ne 0 0 (by omega))]
        refine ⟨fun f' h' => (by cases h'), fun st' q' h' => ?_⟩
        cases h'
        exact ⟨_, J, rfl, Ev.num, j2⟩
      · rw [if_neg hd]
        rcases nmf_case u (tch b len p) with ⟨j, hj, e⟩ | e
        · rw [e, if_neg (nI_pos (by omega)), if_pos (nI_pos' (by omega))]
          simp only [lt_def]
          rw [grd_t (bnd_nI hj (by omega)), nI_clamp (by omega)]
          refine ⟨fun f' h' => (by cases h'), fun st' q' h' => ?_⟩
          cases h'
          refine ⟨_, _, rfl, ?_, ms_next h⟩
          rw [names_m (ms_next h) hj]
          exact Ev.name
        · rw [e, if_pos (show (-1 : Int32) < 0 by decide), if_neg (show ¬ (0 : Int32) ≤ -1 by decide)]
          have e0 : ¬ isD (tch b len p) = true := hd
          have hL : L_Model_unit_150 R 1000 0 0 I = some (0, 0, I) := by
            rw [L_Model_unit_150, if_neg (by decide), here_m h50 hbs hp h, Option.bind_some, isDm, if_neg hd, if_pos rfl]
          rw [hL, Option.bind_some]
          dsimp only
          rw [if_pos rfl]
          obtain ⟨K, k1, k2⟩ := wrong_m h
          rw [lt_def, k1]
          refine ⟨fun f' h' => ?_, fun st q h' => (by cases h')⟩
          cases h'
          exact ⟨0, K, rfl, k2⟩
theorem U_m (h50 : len ≤ 50) (hbs : bs + len ≤ 270) : ∀ k, k ≤ 5 → ∀ f, k < f → mOK b len u bs na nb nc nd (5 - k) (lf b len u k) (U_unit f) := by
  intro k
  induction k with
  | zero =>
    intro _ f hf
    cases f with
    | zero => omega
    | succ f =>
      have := unit_m (na := na) (nb := nb) (nc := nc) (nd := nd) (R := U_unit f) (k := 0) (u := u) (b := b) h50 hbs (by decide) (fun k' h => by omega)
      intro I p hp h
      rw [U_unit]
      exact this I p hp h
  | succ k ih =>
    intro hk f hf
    cases f with
    | zero => omega
    | succ f =>
      have := unit_m (na := na) (nb := nb) (nc := nc) (nd := nd) (R := U_unit f) (k := k + 1) (u := u) (b := b) h50 hbs hk (fun k' h => by
        obtain rfl : k' = k := by omega
        rw [show 5 - (k' + 1) + 1 = 5 - k' by omega]
        exact ih (by omega) f (by omega))
      intro I p hp h
      rw [U_unit]
      exact this I p hp h
/-- the reference's work on a whole text -/
theorem worked_m (h50 : len ≤ 50) (hbs : bs + len ≤ 270) (hu : u < 2) (hb : ∀ j, j < len → I 89 (bs + j) = b j) :
    (∀ f, pT b len u = .inl f → ∃ v J, M_Model_worked I (nI bs) (nI len) (nI u) = some (v, J) ∧ J 88 7 = nI f) ∧
    (∀ st q, pT b len u = .inr (st, q) → ∃ v J, M_Model_worked I (nI bs) (nI len) (nI u) = some (v, J) ∧ (if q = len then Ev (I 92 0) (I 92 1) (I 92 2) (I 92 3) st v ∧ J 88 7 = -1 else J 88 7 = nI q)) := by
  have key : ∀ w : Int32, w = nI (if u = 0 then 0 else 1) → MS b len u bs (I 92 0) (I 92 1) (I 92 2) (I 92 3) 0 (xu (xu (xu (xu (xu (xu I 88 4 (nI bs)) 88 5 0) 88 6 (nI len)) 88 7 (-1)) 88 8 0) 88 9 w) 0 := by
    intro w hw
    refine ⟨by simp [xu_app], by simp [xu_app]; rfl, by simp [xu_app], by simp [xu_app], by simp [xu_app]; rfl, by simp [xu_app]; exact hw, fun j hj => by simp [xu_app]; exact hb j hj, by simp [xu_app], by simp [xu_app], by simp [xu_app], by simp [xu_app]⟩
  have hE := either_m h50 hbs (g_lf (b := b) (u := u) h50 5) (U_m (u := u) (na := I 92 0) (nb := I 92 1) (nc := I 92 2) (nd := I 92 3) h50 hbs 5 (by decide) 7 (by decide))
  have fin : ∀ w : Int32, w = nI (if u = 0 then 0 else 1) → M_Model_worked I (nI bs) (nI len) (nI u) = Option.bind (M_Model_either (U_unit 7) (xu (xu (xu (xu (xu (xu I 88 4 (nI bs)) 88 5 0) 88 6 (nI len)) 88 7 (-1)) 88 8 0) 88 9 w)) fun p8 => if (0 : Int32) ≤ (p8.2 88 7) then (some (p8.1, p8.2)) else (if (p8.2 88 6) ≤ (p8.2 88 5) then (some (p8.1, p8.2)) else (lt (M_Model_wrong p8.2) fun p11 => some (p11.1, p11.2))) := by
    intro w hw
    subst hw
    unfold M_Model_worked
    simp only [lt_def]
    rcases (show u = 0 ∨ u = 1 by omega) with rfl | rfl
    · rw [if_neg (by decide)]; rfl
    · rw [if_pos (by decide)]; rfl
  obtain ⟨c1, c2⟩ := hE _ 0 (Nat.zero_le _) (key _ rfl)
  have hx := g_eX (b := b) h50 (g_lf (b := b) (u := u) h50 5) 0 (Nat.zero_le _)
  rw [fin _ rfl]
  unfold pT
  refine ⟨fun f hf => ?_, fun st q hq => ?_⟩
  · obtain ⟨v, J, j1, j2⟩ := c1 f hf
    have hg := hx.1 f hf
    rw [j1, Option.bind_some]
    dsimp only
    rw [if_pos (show (0 : Int32) ≤ J 88 7 by rw [j2]; exact nI_pos' (by omega))]
    exact ⟨v, J, rfl, j2⟩
  · obtain ⟨v, J, j1, j2, j3⟩ := c2 st q hq
    have hg := hx.2 st q hq
    rw [j1, Option.bind_some]
    dsimp only
    rw [if_neg (show ¬ (0 : Int32) ≤ J 88 7 by rw [j3.2.2.2.1]; decide)]
    by_cases hql : q = len
    · rw [if_pos (show J 88 6 ≤ J 88 5 by rw [j3.2.2.1, j3.2.1]; exact nI_le (by omega) (by omega))]
      exact ⟨v, J, rfl, by rw [if_pos hql]; exact ⟨j2, j3.2.2.2.1⟩⟩
    · rw [if_neg (show ¬ J 88 6 ≤ J 88 5 by rw [j3.2.2.1, j3.2.1]; exact nI_ge (by omega) (by omega))]
      obtain ⟨K, k1, k2⟩ := wrong_m j3
      rw [lt_def, k1]
      exact ⟨0, K, rfl, by rw [if_neg hql]; exact k2⟩
end TM
