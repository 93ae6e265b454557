/-! the class's stack -/
def wtop (k : List Int32) : Int32 := match k with
  | [] => -1
  | _ :: r => nI r.length
theorem wtop_1 {k : List Int32} : wtop k + 1 = nI k.length := by
  cases k with
  | nil => rfl
  | cons x r => exact nI_1 _
theorem wtop_lt {k : List Int32} (h : k.length < 50) : ¬ (50 : Int32) - 1 ≤ wtop k := by
  cases k with
  | nil => decide
  | cons x r => exact c_nle _ 49 (by rw [List.length_cons] at h; omega)
theorem rs_len (a b c d : Int32) (s : TStp) (k : List Int32) : (rs a b c d s k).length ≤ k.length + 1 := by
  unfold rs
  by_cases h0 : s.1 = 0
  · rw [if_pos h0]; simp
  · rw [if_neg h0]
    by_cases h1 : s.1 = 1
    · rw [if_pos h1]; simp
    · rw [if_neg h1]
      by_cases h33 : s.1 = 33
      · rw [if_pos h33]; cases k <;> simp
      · rw [if_neg h33]
        match k with
        | [] => simp
        | [_] => simp
        | _ :: _ :: _ => simp
/-! how the class works a text out (16) -/
section W0
variable {a b c d : Int32} {I : HI}
def SK0 (I : HI) (k : List Int32) : Prop := ∀ x, x < k.length → I 19 x = k.getD (k.length - 1 - x) 0
theorem wo_step0 {f i : Nat} {s : TStp} {k : List Int32} {n : Nat} (hn : I 16 2 = nI n) (hi : i < n) (hn50 : n ≤ 50) (h1 : I 17 i = s.1) (h2 : I 18 i = s.2) (hk : k.length ≤ i) (hS : SK0 I k) :
    ∃ J, L_Text_workOut_6 a b c d (f + 1) (wtop k) (nI i) I = L_Text_workOut_6 a b c d f (wtop (rs a b c d s k)) (nI (i + 1)) J ∧ SK0 J (rs a b c d s k) ∧ fr [19] I J := by
  rw [L_Text_workOut_6, hn, if_neg (nI_ge hi (by omega)), grd_t (bnd_nI (by omega) (by omega)), nI_clamp (by omega), h1, h2, nI_1]
  unfold rs
  have hpush : ∀ v : Int32, SK0 (xu I 19 k.length v) (v :: k) := by
    intro v x hx
    rw [List.length_cons] at hx
    by_cases e : x = k.length
    · subst e; rw [xu_rr]; simp
    · rw [xu_rn e, hS x (by omega)]
      have : (v :: k).length - 1 - x = (k.length - 1 - x) + 1 := by rw [List.length_cons]; omega
      rw [this]; rfl
  by_cases e0 : s.1 = 0
  · simp only [if_pos e0]
    rw [if_neg (wtop_lt (by omega)), wtop_1, grd_t (bnd_nI (by omega) (by omega)), nI_clamp (by omega), lt_def]
    exact ⟨_, rfl, hpush _, fr.wr (by decide) fr.refl⟩
  · simp only [if_neg e0]
    by_cases e1 : s.1 = 1
    · simp only [if_pos e1]
      rw [if_neg (wtop_lt (by omega)), wtop_1, grd_t (bnd_nI (by omega) (by omega)), nI_clamp (by omega), lt_def]
      exact ⟨_, rfl, hpush _, fr.wr (by decide) fr.refl⟩
    · simp only [if_neg e1]
      by_cases e33 : s.1 = 33
      · simp only [if_pos e33]
        cases k with
        | nil =>
          rw [if_pos (show wtop [] < 0 by decide)]
          exact ⟨I, rfl, hS, fr.refl⟩
        | cons x r =>
          have hr : r.length < 50 := by rw [List.length_cons] at hk; omega
          have htop : wtop (x :: r) = nI r.length := rfl
          rw [htop, if_neg (nI_pos (by omega)), grd_t (bnd_nI hr (by omega)), nI_clamp (by omega)]
          have hx : I 19 r.length = x := by
            have := hS r.length (by rw [List.length_cons]; omega)
            rw [this]; simp
          have hset : ∀ v : Int32, SK0 (xu I 19 r.length v) (v :: r) := by
            intro v y hy
            rw [List.length_cons] at hy
            by_cases e : y = r.length
            · subst e; rw [xu_rr]; simp
            · rw [xu_rn e, hS y (by rw [List.length_cons]; omega)]
              have e1 : (x :: r).length - 1 - y = (r.length - 1 - y) + 1 := by rw [List.length_cons]; omega
              have e2 : (v :: r).length - 1 - y = (r.length - 1 - y) + 1 := by rw [List.length_cons]; omega
              rw [e1, e2]; rfl
          rw [hx]
          by_cases hx0 : x = 0
          · rw [if_pos hx0, lt_def]
            refine ⟨_, ?_, hset _, fr.wr (by decide) fr.refl⟩
            rw [if_pos hx0]; rfl
          · rw [if_neg hx0, lt_def]
            refine ⟨_, ?_, hset _, fr.wr (by decide) fr.refl⟩
            rw [if_neg hx0]; rfl
      · simp only [if_neg e33]
        match k, hk, hS with
        | [], hk, hS =>
          rw [if_pos (show wtop [] < 1 by decide)]
          exact ⟨I, rfl, hS, fr.refl⟩
        | [y], hk, hS =>
          rw [if_pos (show wtop [y] < 1 from (by decide : nI 0 < 1))]
          exact ⟨I, rfl, hS, fr.refl⟩
        | y :: x :: r, hk, hS =>
          simp only [List.length_cons] at hk
          have htop : wtop (y :: x :: r) = nI (r.length + 1) := rfl
          rw [htop, if_neg (n_nlt 1 1 (by omega)), pk_m1, nI_1, grd_t (bnd_nI (by omega) (by omega)), grd_t (bnd_nI (by omega) (by omega)), nI_clamp (by omega), nI_clamp (by omega)]
          have hy : I 19 (r.length + 1) = y := by
            have := hS (r.length + 1) (by simp)
            rw [this]; simp
          have hx : I 19 r.length = x := by
            have := hS r.length (by simp; omega)
            rw [this]
            have : (y :: x :: r).length - 1 - r.length = 1 := by simp only [List.length_cons]; omega
            rw [this]; rfl
          rw [hx, hy, jn_eq, Option.bind_some, lt_def]
          refine ⟨_, rfl, ?_, fr.wr (by decide) fr.refl⟩
          intro z hz
          rw [List.length_cons] at hz
          by_cases e : z = r.length
          · subst e; rw [xu_rr]; simp
          · rw [xu_rn e, hS z (by simp; omega)]
            have e1 : (y :: x :: r).length - 1 - z = (r.length - 1 - z) + 2 := by simp only [List.length_cons]; omega
            have e2 : (jn s.1 x y :: r).length - 1 - z = (r.length - 1 - z) + 1 := by rw [List.length_cons]; omega
            rw [e1, e2]; rfl
theorem wo_loop0 {l : List TStp} (h50 : l.length ≤ 50) : ∀ (f i : Nat) (k : List Int32) (I : HI), i ≤ l.length → l.length - i < f → k.length ≤ i → I 16 2 = nI l.length → (∀ j, j < l.length → I 17 j = (l.getD j (0, 0)).1 ∧ I 18 j = (l.getD j (0, 0)).2) → SK0 I k →
    ∃ J, L_Text_workOut_6 a b c d f (wtop k) (nI i) I = some J ∧ SK0 J (runS a b c d (l.drop i) k) ∧ fr [19] I J := by
  intro f
  induction f with
  | zero => intro i k I _ h; omega
  | succ f ih =>
    intro i k I hi hf hk hn hl hS
    rcases Nat.lt_or_ge i l.length with h | h
    · obtain ⟨h1, h2⟩ := hl i h
      obtain ⟨J, j1, j2, j3⟩ := wo_step0 (a := a) (b := b) (c := c) (d := d) (f := f) hn h h50 h1 h2 hk hS
      rw [j1]
      have e : l.drop i = l.getD i (0, 0) :: l.drop (i + 1) := by
        rw [List.drop_eq_getElem_cons h]
        congr 1
        simp [h]
      rw [e]
      show ∃ K, _ ∧ SK0 K (runS a b c d (l.drop (i + 1)) (rs a b c d (l.getD i (0, 0)) k)) ∧ _
      obtain ⟨K, k1, k2, k3⟩ := ih (i + 1) (rs a b c d (l.getD i (0, 0)) k) J h (by omega) (Nat.le_trans (rs_len a b c d _ k) (by omega)) (by rw [j3 16 (by decide)]; exact hn) (fun j hj => by rw [j3 17 (by decide), j3 18 (by decide)]; exact hl j hj) j2
      exact ⟨K, k1, k2, fr.trans j3 k3⟩
    · have e : i = l.length := by omega
      subst e
      rw [L_Text_workOut_6, hn, if_pos (nI_le (Nat.le_refl _) (by omega))]
      refine ⟨I, rfl, ?_, fr.refl⟩
      rw [List.drop_length]
      exact hS
theorem workOut0 {l : List TStp} {v : Int32} (h50 : l.length ≤ 50) (hn : I 16 2 = nI l.length) (hl : ∀ j, j < l.length → I 17 j = (l.getD j (0, 0)).1 ∧ I 18 j = (l.getD j (0, 0)).2) (hv : Ev a b c d l v) : ∃ J, M_Text_workOut I a b c d = some (v, J) ∧ fr [19] I J := by
  unfold M_Text_workOut
  obtain ⟨J, j1, j2, j3⟩ := wo_loop0 (a := a) (b := b) (c := c) (d := d) h50 1000 0 [] I (Nat.zero_le _) (by omega) (Nat.zero_le _) hn hl (fun x hx => by simp at hx)
  rw [show (0 : Int32) = nI 0 from rfl, show (-1 : Int32) = wtop [] from rfl, j1, Option.bind_some]
  rw [List.drop_zero, hv []] at j2
  have := j2 0 (by simp)
  rw [this]
  exact ⟨J, rfl, j3⟩
end W0
/-! how the class works a text out (21) -/
section W1
variable {a b c d : Int32} {I : HI}
def SK1 (I : HI) (k : List Int32) : Prop := ∀ x, x < k.length → I 24 x = k.getD (k.length - 1 - x) 0
theorem wo_step1 {f i : Nat} {s : TStp} {k : List Int32} {n : Nat} (hn : I 21 2 = nI n) (hi : i < n) (hn50 : n ≤ 50) (h1 : I 22 i = s.1) (h2 : I 23 i = s.2) (hk : k.length ≤ i) (hS : SK1 I k) :
    ∃ J, L_Text_workOut_2_6 a b c d (f + 1) (wtop k) (nI i) I = L_Text_workOut_2_6 a b c d f (wtop (rs a b c d s k)) (nI (i + 1)) J ∧ SK1 J (rs a b c d s k) ∧ fr [24] I J := by
  rw [L_Text_workOut_2_6, hn, if_neg (nI_ge hi (by omega)), grd_t (bnd_nI (by omega) (by omega)), nI_clamp (by omega), h1, h2, nI_1]
  unfold rs
  have hpush : ∀ v : Int32, SK1 (xu I 24 k.length v) (v :: k) := by
    intro v x hx
    rw [List.length_cons] at hx
    by_cases e : x = k.length
    · subst e; rw [xu_rr]; simp
    · rw [xu_rn e, hS x (by omega)]
      have : (v :: k).length - 1 - x = (k.length - 1 - x) + 1 := by rw [List.length_cons]; omega
      rw [this]; rfl
  by_cases e0 : s.1 = 0
  · simp only [if_pos e0]
    rw [if_neg (wtop_lt (by omega)), wtop_1, grd_t (bnd_nI (by omega) (by omega)), nI_clamp (by omega), lt_def]
    exact ⟨_, rfl, hpush _, fr.wr (by decide) fr.refl⟩
  · simp only [if_neg e0]
    by_cases e1 : s.1 = 1
    · simp only [if_pos e1]
      rw [if_neg (wtop_lt (by omega)), wtop_1, grd_t (bnd_nI (by omega) (by omega)), nI_clamp (by omega), lt_def]
      exact ⟨_, rfl, hpush _, fr.wr (by decide) fr.refl⟩
    · simp only [if_neg e1]
      by_cases e33 : s.1 = 33
      · simp only [if_pos e33]
        cases k with
        | nil =>
          rw [if_pos (show wtop [] < 0 by decide)]
          exact ⟨I, rfl, hS, fr.refl⟩
        | cons x r =>
          have hr : r.length < 50 := by rw [List.length_cons] at hk; omega
          have htop : wtop (x :: r) = nI r.length := rfl
          rw [htop, if_neg (nI_pos (by omega)), grd_t (bnd_nI hr (by omega)), nI_clamp (by omega)]
          have hx : I 24 r.length = x := by
            have := hS r.length (by rw [List.length_cons]; omega)
            rw [this]; simp
          have hset : ∀ v : Int32, SK1 (xu I 24 r.length v) (v :: r) := by
            intro v y hy
            rw [List.length_cons] at hy
            by_cases e : y = r.length
            · subst e; rw [xu_rr]; simp
            · rw [xu_rn e, hS y (by rw [List.length_cons]; omega)]
              have e1 : (x :: r).length - 1 - y = (r.length - 1 - y) + 1 := by rw [List.length_cons]; omega
              have e2 : (v :: r).length - 1 - y = (r.length - 1 - y) + 1 := by rw [List.length_cons]; omega
              rw [e1, e2]; rfl
          rw [hx]
          by_cases hx0 : x = 0
          · rw [if_pos hx0, lt_def]
            refine ⟨_, ?_, hset _, fr.wr (by decide) fr.refl⟩
            rw [if_pos hx0]; rfl
          · rw [if_neg hx0, lt_def]
            refine ⟨_, ?_, hset _, fr.wr (by decide) fr.refl⟩
            rw [if_neg hx0]; rfl
      · simp only [if_neg e33]
        match k, hk, hS with
        | [], hk, hS =>
          rw [if_pos (show wtop [] < 1 by decide)]
          exact ⟨I, rfl, hS, fr.refl⟩
        | [y], hk, hS =>
          rw [if_pos (show wtop [y] < 1 from (by decide : nI 0 < 1))]
          exact ⟨I, rfl, hS, fr.refl⟩
        | y :: x :: r, hk, hS =>
          simp only [List.length_cons] at hk
          have htop : wtop (y :: x :: r) = nI (r.length + 1) := rfl
          rw [htop, if_neg (n_nlt 1 1 (by omega)), pk_m1, nI_1, grd_t (bnd_nI (by omega) (by omega)), grd_t (bnd_nI (by omega) (by omega)), nI_clamp (by omega), nI_clamp (by omega)]
          have hy : I 24 (r.length + 1) = y := by
            have := hS (r.length + 1) (by simp)
            rw [this]; simp
          have hx : I 24 r.length = x := by
            have := hS r.length (by simp; omega)
            rw [this]
            have : (y :: x :: r).length - 1 - r.length = 1 := by simp only [List.length_cons]; omega
            rw [this]; rfl
          rw [hx, hy, jn_eq, Option.bind_some, lt_def]
          refine ⟨_, rfl, ?_, fr.wr (by decide) fr.refl⟩
          intro z hz
          rw [List.length_cons] at hz
          by_cases e : z = r.length
          · subst e; rw [xu_rr]; simp
          · rw [xu_rn e, hS z (by simp; omega)]
            have e1 : (y :: x :: r).length - 1 - z = (r.length - 1 - z) + 2 := by simp only [List.length_cons]; omega
            have e2 : (jn s.1 x y :: r).length - 1 - z = (r.length - 1 - z) + 1 := by rw [List.length_cons]; omega
            rw [e1, e2]; rfl
theorem wo_loop1 {l : List TStp} (h50 : l.length ≤ 50) : ∀ (f i : Nat) (k : List Int32) (I : HI), i ≤ l.length → l.length - i < f → k.length ≤ i → I 21 2 = nI l.length → (∀ j, j < l.length → I 22 j = (l.getD j (0, 0)).1 ∧ I 23 j = (l.getD j (0, 0)).2) → SK1 I k →
    ∃ J, L_Text_workOut_2_6 a b c d f (wtop k) (nI i) I = some J ∧ SK1 J (runS a b c d (l.drop i) k) ∧ fr [24] I J := by
  intro f
  induction f with
  | zero => intro i k I _ h; omega
  | succ f ih =>
    intro i k I hi hf hk hn hl hS
    rcases Nat.lt_or_ge i l.length with h | h
    · obtain ⟨h1, h2⟩ := hl i h
      obtain ⟨J, j1, j2, j3⟩ := wo_step1 (a := a) (b := b) (c := c) (d := d) (f := f) hn h h50 h1 h2 hk hS
      rw [j1]
      have e : l.drop i = l.getD i (0, 0) :: l.drop (i + 1) := by
        rw [List.drop_eq_getElem_cons h]
        congr 1
        simp [h]
      rw [e]
      show ∃ K, _ ∧ SK1 K (runS a b c d (l.drop (i + 1)) (rs a b c d (l.getD i (0, 0)) k)) ∧ _
      obtain ⟨K, k1, k2, k3⟩ := ih (i + 1) (rs a b c d (l.getD i (0, 0)) k) J h (by omega) (Nat.le_trans (rs_len a b c d _ k) (by omega)) (by rw [j3 21 (by decide)]; exact hn) (fun j hj => by rw [j3 22 (by decide), j3 23 (by decide)]; exact hl j hj) j2
      exact ⟨K, k1, k2, fr.trans j3 k3⟩
    · have e : i = l.length := by omega
      subst e
      rw [L_Text_workOut_2_6, hn, if_pos (nI_le (Nat.le_refl _) (by omega))]
      refine ⟨I, rfl, ?_, fr.refl⟩
      rw [List.drop_length]
      exact hS
theorem workOut1 {l : List TStp} {v : Int32} (h50 : l.length ≤ 50) (hn : I 21 2 = nI l.length) (hl : ∀ j, j < l.length → I 22 j = (l.getD j (0, 0)).1 ∧ I 23 j = (l.getD j (0, 0)).2) (hv : Ev a b c d l v) : ∃ J, M_Text_workOut_2 I a b c d = some (v, J) ∧ fr [24] I J := by
  unfold M_Text_workOut_2
  obtain ⟨J, j1, j2, j3⟩ := wo_loop1 (a := a) (b := b) (c := c) (d := d) h50 1000 0 [] I (Nat.zero_le _) (by omega) (Nat.zero_le _) hn hl (fun x hx => by simp at hx)
  rw [show (0 : Int32) = nI 0 from rfl, show (-1 : Int32) = wtop [] from rfl, j1, Option.bind_some]
  rw [List.drop_zero, hv []] at j2
  have := j2 0 (by simp)
  rw [this]
  exact ⟨J, rfl, j3⟩
end W1
