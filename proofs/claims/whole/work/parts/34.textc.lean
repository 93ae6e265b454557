/-! how the class reads a text -/
def TS (b : Nat → Int32) (len : Nat) (I : HI) (p : Nat) (l : List TStp) : Prop :=
  I 26 5 = nI len ∧ I 26 6 = nI p ∧ I 26 2 = nI l.length ∧ (∀ j, j < len → I 14 j = b j) ∧ (∀ j, j < l.length → I 27 j = (l.getD j (0, 0)).1 ∧ I 28 j = (l.getD j (0, 0)).2)
def cOK (b : Nat → Int32) (len : Nat) (X : Nat → TRes) (R : HI → Option (Int32 × HI)) : Prop :=
  ∀ I p l, p ≤ len → l.length ≤ p → TS b len I p l → (∀ f, X p = .inl f → ∃ J, R I = some (0, J) ∧ J 26 6 = nI f) ∧ (∀ st q, X p = .inr (st, q) → ∃ J, R I = some (1, J) ∧ TS b len J q (l ++ st))
section TC
variable {b : Nat → Int32} {len u dn : Nat} {X : Nat → TRes} {I : HI} {p : Nat} {l : List TStp}
theorem here_c (h50 : len ≤ 50) (hp : p ≤ len) (h : TS b len I p l) : M_Text_here dn I = some (tch b len p) := by
  obtain ⟨h1, h2, h3, h4, h5⟩ := h
  unfold M_Text_here
  rw [h1, h2]
  rcases Nat.lt_or_ge p len with hl | hl
  · rw [if_neg (nI_ge hl (by omega)), if_neg (c_nle 50 50 (by omega)), grd_t (bnd_nI (by omega) (by omega)), nI_clamp (by omega), h4 p hl, tch_in hl]
  · rw [if_pos (nI_le hl (by omega)), tch_m1 hl]
theorem ts_next (h : TS b len I p l) : TS b len (xu I 26 6 (I 26 6 + 1)) (p + 1) l := by
  obtain ⟨h1, h2, h3, h4, h5⟩ := h
  refine ⟨by rw [xu_rn (by decide)]; exact h1, by rw [xu_rr, h2]; exact nI_1 p, by rw [xu_rn (by decide)]; exact h3, fun j hj => by rw [xu_qn (by decide)]; exact h4 j hj, fun j hj => by rw [xu_qn (by decide), xu_qn (by decide)]; exact h5 j hj⟩
theorem addStep_c (hl : l.length < 50) (h : TS b len I p l) (s v : Int32) : ∃ J, M_Text_addStep I s v = some J ∧ TS b len J p (l ++ [(s, v)]) := by
  obtain ⟨h1, h2, h3, h4, h5⟩ := h
  unfold M_Text_addStep
  rw [h3, if_neg (c_nle 50 50 (by omega)), grd_t (bnd_nI (by omega) (by omega)), nI_clamp (by omega)]
  simp only [lt_def]
  rw [xu_qn (show (26 : Nat) ≠ 27 by decide), h3, grd_t (bnd_nI (by omega) (by omega)), nI_clamp (by omega)]
  refine ⟨_, rfl, ?_, ?_, ?_, fun j hj => ?_, fun j hj => ?_⟩
  · simp only [xu_app]; simpa using h1
  · simp only [xu_app]; simpa using h2
  · simp only [xu_app]
    simp [h3, nI_1]
  · simp only [xu_app]; simpa using h4 j hj
  · simp only [xu_app]
    rw [List.length_append] at hj
    simp at hj
    by_cases e : j = l.length
    · subst e; simp
    · have hlt : j < l.length := by omega
      have := h5 j hlt
      simp [e, this, List.getElem?_append_left hlt]
theorem rn_c (h50 : len ≤ 50) : ∀ (f k : Nat) (v : Int32) (i : Nat) (I : HI) (p : Nat), k + i = 4 → k < f → p ≤ len → TS b len I p l → ∃ J, L_Text_readNumber_4 dn f v (nI i) I = some ((nml b len k v p).1, J) ∧ TS b len J (nml b len k v p).2 l := by
  intro f
  induction f with
  | zero => intro k v i I p _ h; omega
  | succ f ih =>
    intro k v i I p hk hf hp h
    rw [L_Text_readNumber_4]
    cases k with
    | zero =>
      obtain rfl : i = 4 := by omega
      rw [if_pos (by decide)]
      exact ⟨I, rfl, h⟩
    | succ k =>
      rw [if_neg (c_nle 4 4 (by omega)), here_c h50 hp h, Option.bind_some]
      unfold nml
      by_cases hd : isD (tch b len p) = true
      · rw [if_pos hd, if_neg (by
          unfold M_Text_isDigit
          unfold isD at hd
          simp only [Bool.and_eq_true, decide_eq_true_eq] at hd
          rw [if_neg (Int32.not_lt.mpr hd.1), if_neg (Int32.not_lt.mpr hd.2)]
          decide), Option.bind_some]
        have hlt : p < len := lt_of_tch (b := b) (by intro h2; rw [h2] at hd; exact absurd hd (by decide))
        rw [lt_def, nI_1]
        exact ih k _ (i + 1) _ (p + 1) (by omega) (by omega) hlt (ts_next h)
      · rw [if_neg hd, if_pos (by
          unfold M_Text_isDigit
          unfold isD at hd
          simp only [Bool.and_eq_true, decide_eq_true_eq, not_and] at hd
          by_cases h1 : tch b len p < 48
          · rw [if_pos h1]
          · rw [if_neg h1, if_pos (Int32.not_le.mp (hd (Int32.not_lt.mp h1)))])]
        exact ⟨I, rfl, h⟩
theorem readNumber_c (h50 : len ≤ 50) (hl : l.length < 50) (hp : p ≤ len) (h : TS b len I p l) : ∃ J, M_Text_readNumber dn I = some J ∧ TS b len J (nml b len 4 0 p).2 (l ++ [(0, (nml b len 4 0 p).1)]) := by
  unfold M_Text_readNumber
  obtain ⟨J, h1, h2⟩ := rn_c (dn := dn) h50 1000 4 0 0 I p rfl (by decide) hp h
  rw [show (0 : Int32) = nI 0 from rfl] at h1 ⊢
  rw [h1, Option.bind_some]
  obtain ⟨K, h3, h4⟩ := addStep_c hl h2 (nI 0) (nml b len 4 (nI 0) p).1
  rw [h3, Option.bind_some]
  exact ⟨K, rfl, h4⟩
/-- the loop of a level -/
theorem loop_c {rl : Int32 → Int32 → HI → Option (Int32 × HI)} {rf : Int32 → HI → Option (Int32 × HI)} {x1 x2 : Int32} (h50 : len ≤ 50) (hx0 : 0 ≤ x1) (hX : gX len X) (hR : cOK b len X (rl (x1 + 1) x2)) :
    ∀ (k f i : Nat) (I : HI) (p : Nat) (acc : List TStp), len - p < k → len - p < f → i ≤ p → p ≤ len → (l ++ acc).length ≤ p → TS b len I p (l ++ acc) →
      (∀ f', layl b len x1 X k acc p = .inl f' → ∃ J, L_Text_readLevel_26 dn rl rf x1 x2 f (nI i) I = some (0, J) ∧ J 26 6 = nI f') ∧ (∀ st q, layl b len x1 X k acc p = .inr (st, q) → ∃ t J, t ≠ 0 ∧ L_Text_readLevel_26 dn rl rf x1 x2 f (nI i) I = some (t, J) ∧ TS b len J q (l ++ st)) := by
  intro k
  induction k with
  | zero => intro f i I p acc h; omega
  | succ k ih =>
    intro f i I p acc hk hf hi hp hla h
    cases f with
    | zero => omega
    | succ f =>
      rw [L_Text_readLevel_26]
      unfold layl
      by_cases h5 : 50 ≤ i
      · rw [if_pos (c_le 50 50 h5)]
        have : M_Text_levelOf (tch b len p) ≠ x1 := by
          rw [tch_m1 (by omega)]
          rintro rfl
          exact absurd hx0 (by decide)
        rw [if_neg this]
        refine ⟨fun f' h => (by cases h), fun st q h' => ?_⟩
        cases h'
        exact ⟨2, I, by decide, rfl, h⟩
      · rw [if_neg (c_nle 50 50 (by omega)), here_c h50 hp h, Option.bind_some]
        by_cases h1 : M_Text_levelOf (tch b len p) = x1
        · rw [if_pos h1, if_pos h1, Option.bind_some, lt_def]
          have hlt : p < len := lt_of_tch (b := b) (by intro h2; rw [h2] at h1; rw [← h1] at hx0; exact absurd hx0 (by decide))
          obtain ⟨c1, c2⟩ := hR _ (p + 1) (l ++ acc) hlt (by omega) (ts_next h)
          have hx := hX (p + 1) hlt
          cases hr : X (p + 1) with
          | inl g =>
            obtain ⟨J, j1, j2⟩ := c1 g hr
            rw [j1, Option.bind_some]
            refine ⟨fun f' h' => ?_, fun st q h' => (by cases h')⟩
            cases h'
            exact ⟨J, rfl, j2⟩
          | inr r =>
            obtain ⟨st, q⟩ := r
            obtain ⟨J, j1, j2⟩ := c2 st q hr
            have hg := hx.2 st q hr
            have hlen2 : ((l ++ acc) ++ st).length < 50 := by rw [List.length_append]; omega
            obtain ⟨K, k1, k2⟩ := addStep_c hlen2 j2 (tch b len p) 0
            rw [j1, Option.bind_some]
            dsimp only
            rw [if_neg one0, k1, Option.bind_some]
            have hassoc : l ++ acc ++ st ++ [(tch b len p, 0)] = l ++ (acc ++ st ++ [(tch b len p, 0)]) := by simp [List.append_assoc]
            rw [hassoc] at k2
            by_cases h2 : x1 = 2
            · rw [if_pos h2, if_pos h2]
              refine ⟨fun f' h' => (by cases h'), fun st' q' h' => ?_⟩
              cases h'
              exact ⟨1, K, by decide, rfl, k2⟩
            · rw [if_neg h2, if_neg h2, nI_1]
              refine ih f (i + 1) K q _ (by omega) (by omega) (by omega) hg.2.1 ?_ k2
              rw [← hassoc]
              simp only [List.length_append, List.length_cons, List.length_nil] at hla ⊢
              omega
        · rw [if_neg h1, if_neg h1]
          refine ⟨fun f' h => (by cases h), fun st q h' => ?_⟩
          cases h'
          exact ⟨2, I, by decide, rfl, h⟩
theorem lev_c {rl : Int32 → Int32 → HI → Option (Int32 × HI)} {rf : Int32 → HI → Option (Int32 × HI)} {x1 x2 : Int32} (h50 : len ≤ 50) (hx0 : 0 ≤ x1) (hx5 : x1 < 5) (hX : gX len X) (hR : cOK b len X (rl (x1 + 1) x2)) : cOK b len (lev b len x1 X) (fun I => M_Text_readLevel dn rl rf I x1 x2) := by
  intro I p l hp hl h
  dsimp only
  unfold M_Text_readLevel lev
  rw [if_pos hx5]
  obtain ⟨c1, c2⟩ := hR I p l hp hl h
  have hx := hX p hp
  cases hr : X p with
  | inl g =>
    obtain ⟨J, j1, j2⟩ := c1 g hr
    rw [j1, Option.bind_some]
    refine ⟨fun f' h' => ?_, fun st q h' => (by cases h')⟩
    cases h'
    exact ⟨J, rfl, j2⟩
  | inr r =>
    obtain ⟨st, q⟩ := r
    obtain ⟨J, j1, j2⟩ := c2 st q hr
    have hg := hx.2 st q hr
    rw [j1, Option.bind_some]
    dsimp only
    rw [if_neg one0]
    obtain ⟨d1, d2⟩ := loop_c (dn := dn) (rf := rf) (l := l) h50 hx0 hX hR 51 1000 0 J q st (by omega) (by omega) (Nat.zero_le _) hg.2.1 (by rw [List.length_append]; omega) j2
    rw [show (0 : Int32) = nI 0 from rfl]
    refine ⟨fun f' h' => ?_, fun st' q' h' => ?_⟩
    · obtain ⟨K, k1, k2⟩ := d1 f' h'
      rw [k1, Option.bind_some]
      exact ⟨K, rfl, k2⟩
    · obtain ⟨t, K, k0, k1, k2⟩ := d2 st' q' h'
      rw [k1, Option.bind_some]
      dsimp only
      rw [if_neg k0]
      by_cases h1 : t = 1
      · rw [if_pos h1]; exact ⟨K, rfl, k2⟩
      · rw [if_neg h1]; exact ⟨K, rfl, k2⟩
theorem lev5_c {rl : Int32 → Int32 → HI → Option (Int32 × HI)} {rf : Int32 → HI → Option (Int32 × HI)} {x2 : Int32} (hR : cOK b len X (rf x2)) : cOK b len X (fun I => M_Text_readLevel dn rl rf I 5 x2) := by
  intro I p l hp hl h
  dsimp only
  unfold M_Text_readLevel
  rw [if_neg (by decide)]
  obtain ⟨c1, c2⟩ := hR I p l hp hl h
  refine ⟨fun f' h' => ?_, fun st' q' h' => ?_⟩
  · obtain ⟨K, k1, k2⟩ := c1 f' h'
    rw [k1, Option.bind_some]
    dsimp only
    rw [gb0]
    exact ⟨K, rfl, k2⟩
  · obtain ⟨K, k1, k2⟩ := c2 st' q' h'
    rw [k1, Option.bind_some]
    dsimp only
    rw [gb1]
    exact ⟨K, rfl, k2⟩
theorem i2c_byte {c : Int32} (h : rg c 255) : i2c c = c := by
  obtain ⟨a, ha, rfl⟩ := h
  unfold i2c
  exact lg_i2c_word (by rw [nI_toInt (by omega)]; omega) (by rw [nI_toInt (by omega)]; omega)
theorem sidx_nmf {c : Int32} (hdn : dn = if u = 0 then 1000003 else 1000004) : sidx dn c = nmf u c := by
  unfold sidx nmf
  by_cases h : u = 0
  · rw [if_pos h, hdn, if_pos h, if_pos rfl]
  · rw [if_neg h, hdn, if_neg h, if_neg (by decide)]
theorem isDigit_c (c : Int32) : M_Text_isDigit c = if isD c = true then 1 else 0 := by
  unfold M_Text_isDigit isD
  by_cases h1 : c < 48
  · rw [if_pos h1, if_neg]
    simp only [Bool.and_eq_true, decide_eq_true_eq, not_and]
    exact fun h => absurd h (Int32.not_le.mpr h1)
  · rw [if_neg h1]
    by_cases h2 : 57 < c
    · rw [if_pos h2, if_neg]
      simp only [Bool.and_eq_true, decide_eq_true_eq, not_and]
      exact fun _ => Int32.not_le.mpr h2
    · rw [if_neg h2, if_pos]
      simp only [Bool.and_eq_true, decide_eq_true_eq]
      exact ⟨Int32.not_lt.mp h1, Int32.not_lt.mp h2⟩
/-- a leaf: o of ! and ( are open -/
theorem leaf_c {rl : Int32 → Int32 → HI → Option (Int32 × HI)} {rf : Int32 → HI → Option (Int32 × HI)} {k : Nat} (h50 : len ≤ 50) (hb : ∀ j, j < len → rg (b j) 255) (hdn : dn = if u = 0 then 1000003 else 1000004) (hk : k ≤ 5)
    (h1 : ∀ k', k = k' + 1 → cOK b len (lf b len u k') (rf (nI (5 - k + 1)))) (h2 : ∀ k', k = k' + 1 → cOK b len (eX b len (lf b len u k')) (rl 0 (nI (5 - k + 1)))) : cOK b len (lf b len u k) (fun I => M_Text_readLeaf dn rl rf I (nI (5 - k))) := by
  intro I p l hp hl h
  dsimp only
  unfold M_Text_readLeaf
  rw [here_c h50 hp h, Option.bind_some, isDigit_c]
  have key : lf b len u k p = lfb b len u (match k with | 0 => .inl p | k' + 1 => nt (lf b len u k' (p + 1))) (match k with | 0 => .inl p | k' + 1 => bk b len (eX b len (lf b len u k') (p + 1))) p := by cases k <;> rfl
  rw [key]
  unfold lfb
  by_cases hd : isD (tch b len p) = true
  · rw [if_pos hd, if_pos hd, if_neg (by decide)]
    have hlt : p < len := lt_of_tch (b := b) (by intro h2; rw [h2] at hd; exact absurd hd (by decide))
    obtain ⟨J, j1, j2⟩ := readNumber_c (dn := dn) h50 (by omega) hp h
    rw [j1, Option.bind_some]
    refine ⟨fun f' h' => (by cases h'), fun st q h' => ?_⟩
    cases h'
    exact ⟨J, rfl, j2⟩
  · rw [if_neg hd, if_neg hd, if_pos rfl]
    by_cases h33 : tch b len p = 33
    · rw [if_pos h33, if_pos h33]
      have hlt : p < len := lt_of_tch (b := b) (by rw [h33]; decide)
      cases k with
      | zero =>
        rw [if_neg (by decide)]
        refine ⟨fun f' h' => ?_, fun st q h' => (by cases h')⟩
        cases h'
        exact ⟨I, rfl, h.2.1⟩
      | succ k' =>
        rw [if_pos (n_lt 5 5 (by omega)), lt_def, nI_1]
        unfold M_Text_readNot
        obtain ⟨c1, c2⟩ := h1 k' rfl _ (p + 1) l hlt (by omega) (ts_next h)
        dsimp only
        unfold nt
        cases hr : lf b len u k' (p + 1) with
        | inl g =>
          obtain ⟨J, j1, j2⟩ := c1 g hr
          rw [j1, Option.bind_some]
          refine ⟨fun f' h' => ?_, fun st q h' => (by cases h')⟩
          cases h'
          exact ⟨J, rfl, j2⟩
        | inr r =>
          obtain ⟨st, q⟩ := r
          obtain ⟨J, j1, j2⟩ := c2 st q hr
          have hg := (g_lf (b := b) (u := u) h50 k' (p + 1) hlt).2 st q hr
          obtain ⟨K, k1, k2⟩ := addStep_c (by rw [List.length_append]; omega) j2 33 0
          rw [j1, Option.bind_some]
          dsimp only
          rw [if_neg one0, k1, Option.bind_some, Option.bind_some]
          dsimp only
          rw [gb1]
          refine ⟨fun f' h' => (by cases h'), fun st' q' h' => ?_⟩
          cases h'
          exact ⟨K, rfl, by rw [← List.append_assoc]; exact k2⟩
    · rw [if_neg h33, if_neg h33]
      by_cases h40 : tch b len p = 40
      · rw [if_pos h40, if_pos h40]
        have hlt : p < len := lt_of_tch (b := b) (by rw [h40]; decide)
        cases k with
        | zero =>
          rw [if_neg (by decide)]
          refine ⟨fun f' h' => ?_, fun st q h' => (by cases h')⟩
          cases h'
          exact ⟨I, rfl, h.2.1⟩
        | succ k' =>
          rw [if_pos (n_lt 5 5 (by omega)), lt_def, nI_1]
          unfold M_Text_readBracket
          obtain ⟨c1, c2⟩ := h2 k' rfl _ (p + 1) l hlt (by omega) (ts_next h)
          dsimp only
          unfold bk
          cases hr : eX b len (lf b len u k') (p + 1) with
          | inl g =>
            obtain ⟨J, j1, j2⟩ := c1 g hr
            rw [j1, Option.bind_some]
            refine ⟨fun f' h' => ?_, fun st q h' => (by cases h')⟩
            cases h'
            exact ⟨J, rfl, j2⟩
          | inr r =>
            obtain ⟨st, q⟩ := r
            obtain ⟨J, j1, j2⟩ := c2 st q hr
            have hg := (g_eX (b := b) h50 (g_lf (u := u) h50 k') (p + 1) hlt).2 st q hr
            rw [j1, Option.bind_some]
            dsimp only
            rw [if_neg one0, here_c h50 hg.2.1 j2, Option.bind_some]
            by_cases h41 : tch b len q = 41
            · rw [if_pos h41, if_pos h41, lt_def, Option.bind_some]
              dsimp only
              rw [gb1]
              refine ⟨fun f' h' => (by cases h'), fun st' q' h' => ?_⟩
              cases h'
              exact ⟨_, rfl, ts_next j2⟩
            · rw [if_neg h41, if_neg h41, Option.bind_some]
              dsimp only
              rw [gb0]
              refine ⟨fun f' h' => ?_, fun st q h' => (by cases h')⟩
              cases h'
              exact ⟨J, rfl, j2.2.1⟩
      · rw [if_neg h40, if_neg h40]
        rcases Nat.lt_or_ge p len with hlt | hge
        · have hbp := hb p hlt
          have hpos : (0 : Int32) ≤ b p := by
            obtain ⟨a, ha, e⟩ := hbp
            rw [e]
            exact nI_pos' (by omega)
          rw [tch_in hlt, if_pos hpos, i2c_byte hbp, sidx_nmf hdn]
          by_cases hn : 0 ≤ nmf u (b p)
          · rw [if_pos hn, if_pos hn, lt_def]
            obtain ⟨K, k1, k2⟩ := addStep_c (by omega) (ts_next h) 1 (nmf u (b p))
            rw [k1, Option.bind_some]
            refine ⟨fun f' h' => (by cases h'), fun st' q' h' => ?_⟩
            cases h'
            exact ⟨K, rfl, k2⟩
          · rw [if_neg hn, if_neg hn]
            refine ⟨fun f' h' => ?_, fun st q h' => (by cases h')⟩
            cases h'
            exact ⟨I, rfl, h.2.1⟩
        · have hnm : ¬ (0 : Int32) ≤ nmf u (-1) := by unfold nmf; split <;> decide
          rw [tch_m1 hge, if_neg (show ¬ (0 : Int32) ≤ -1 by decide), if_neg hnm]
          refine ⟨fun f' h' => ?_, fun st q h' => (by cases h')⟩
          cases h'
          exact ⟨I, rfl, h.2.1⟩
/-- the levels from l on -/
def lvX (b : Nat → Int32) (len : Nat) (X : Nat → TRes) : Nat → (Nat → TRes)
  | 0 => X
  | j + 1 => lev b len (nI (4 - j)) (lvX b len X j)
theorem lvX5 : lvX b len X 5 = eX b len X := rfl
theorem g_lvX (h50 : len ≤ 50) (hX : gX len X) : ∀ j, gX len (lvX b len X j) := by
  intro j
  induction j with
  | zero => exact hX
  | succ j ih => exact g_lev (nI_pos' (by omega)) h50 ih
theorem rd_c (h50 : len ≤ 50) (hb : ∀ j, j < len → rg (b j) 255) (hdn : dn = if u = 0 then 1000003 else 1000004) : ∀ k, k ≤ 5 → (∀ f, 8 * k + 1 ≤ f → cOK b len (lf b len u k) (U_rd dn f false 0 (nI (5 - k)))) ∧ (∀ j, j ≤ 5 → ∀ f, 8 * k + 2 + j ≤ f → cOK b len (lvX b len (lf b len u k) j) (U_rd dn f true (nI (5 - j)) (nI (5 - k)))) := by
  intro k
  induction k with
  | zero =>
    intro hk
    have hleaf : ∀ f, 8 * 0 + 1 ≤ f → cOK b len (lf b len u 0) (U_rd dn f false 0 (nI (5 - 0))) := by
      intro f hf
      cases f with
      | zero => omega
      | succ f =>
        have := leaf_c (rl := U_rd dn f true) (rf := U_rd dn f false 0) (k := 0) h50 hb hdn (by omega) (fun k' h => by omega) (fun k' h => by omega)
        intro I p l hp hl h
        rw [U_rd]
        exact this I p l hp hl h
    refine ⟨hleaf, fun j => ?_⟩
    induction j with
    | zero =>
      intro _ f hf
      cases f with
      | zero => omega
      | succ f =>
        have := lev5_c (dn := dn) (rl := U_rd dn f true) (hleaf f (by omega))
        intro I p l hp hl h
        rw [U_rd]
        exact this I p l hp hl h
    | succ j ih =>
      intro hj f hf
      cases f with
      | zero => omega
      | succ f =>
        have hr := ih (by omega) f (by omega)
        have e : nI (5 - j) = nI (4 - j) + 1 := by rw [nI_1]; congr 1; omega
        rw [e] at hr
        have := lev_c (dn := dn) (rf := U_rd dn f false 0) h50 (nI_pos' (by omega)) (n_lt 5 5 (by omega)) (g_lvX h50 (g_lf h50 0) j) hr
        intro I p l hp hl h
        rw [U_rd, show 5 - (j + 1) = 4 - j by omega]
        exact this I p l hp hl h
  | succ k ihk =>
    intro hk
    obtain ⟨i1, i2⟩ := ihk (by omega)
    have hleaf : ∀ f, 8 * (k + 1) + 1 ≤ f → cOK b len (lf b len u (k + 1)) (U_rd dn f false 0 (nI (5 - (k + 1)))) := by
      intro f hf
      cases f with
      | zero => omega
      | succ f =>
        have e : 5 - (k + 1) + 1 = 5 - k := by omega
        have := leaf_c (rl := U_rd dn f true) (rf := U_rd dn f false 0) (k := k + 1) h50 hb hdn hk (fun k' h => by
          obtain rfl : k' = k := by omega
          rw [e]; exact i1 f (by omega)) (fun k' h => by
          obtain rfl : k' = k := by omega
          rw [e]; exact i2 5 (by decide) f (by omega))
        intro I p l hp hl h
        rw [U_rd]
        exact this I p l hp hl h
    refine ⟨hleaf, fun j => ?_⟩
    induction j with
    | zero =>
      intro _ f hf
      cases f with
      | zero => omega
      | succ f =>
        have := lev5_c (dn := dn) (rl := U_rd dn f true) (hleaf f (by omega))
        intro I p l hp hl h
        rw [U_rd]
        exact this I p l hp hl h
    | succ j ih =>
      intro hj f hf
      cases f with
      | zero => omega
      | succ f =>
        have hr := ih (by omega) f (by omega)
        have e : nI (5 - j) = nI (4 - j) + 1 := by rw [nI_1]; congr 1; omega
        rw [e] at hr
        have := lev_c (dn := dn) (rf := U_rd dn f false 0) h50 (nI_pos' (by omega)) (n_lt 5 5 (by omega)) (g_lvX h50 (g_lf h50 (k + 1)) j) hr
        intro I p l hp hl h
        rw [U_rd, show 5 - (j + 1) = 4 - j by omega]
        exact this I p l hp hl h
/-- the whole text -/
def pT (b : Nat → Int32) (len u : Nat) : TRes := eX b len (lf b len u 5) 0
theorem top_c (h50 : len ≤ 50) (hb : ∀ j, j < len → rg (b j) 255) (hdn : dn = if u = 0 then 1000003 else 1000004) : cOK b len (eX b len (lf b len u 5)) (fun I => M_Text_readLevel dn (U_rl dn 60) (U_rf dn 60) I 0 0) := by
  have hr := (rd_c (u := u) h50 hb hdn 5 (by decide)).2 4 (by decide) 60 (by decide)
  exact lev_c (dn := dn) (rf := U_rf dn 60) (x1 := 0) (x2 := 0) h50 (by decide) (by decide) (g_lvX h50 (g_lf h50 5) 4) hr
end TC
