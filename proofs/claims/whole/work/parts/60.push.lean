/-! years pushed up by looks -/
def ui (X : Nat → Int) (k : Nat) (v : Int) : Nat → Int := fun j => if j = k then v else X j
def stp (hi lo : Nat → Nat) (l : Nat) (X : Nat → Int) : Nat → Int := if X (lo l) + 1 ≤ X (hi l) then X else ui X (hi l) (X (lo l) + 1)
def rnd (hi lo : Nat → Nat) : Nat → (Nat → Int) → (Nat → Int)
  | 0, X => X
  | l + 1, X => stp hi lo l (rnd hi lo l X)
def mvd (hi lo : Nat → Nat) : Nat → (Nat → Int) → Bool
  | 0, _ => false
  | l + 1, X => mvd hi lo l X || !decide (rnd hi lo l X (lo l) + 1 ≤ rnd hi lo l X (hi l))
def itr (hi lo : Nat → Nat) (m : Nat) : Nat → (Nat → Int) → (Nat → Int)
  | 0, X => X
  | r + 1, X => rnd hi lo m (itr hi lo m r X)
/-- nothing moves -/
def stb (hi lo : Nat → Nat) (m : Nat) (X : Nat → Int) : Prop := ∀ l, l < m → X (lo l) + 1 ≤ X (hi l)
section PU
variable {hi lo : Nat → Nat} {m n : Nat} {X Y Z M X0 : Nat → Int}
theorem ui_s {k : Nat} {v : Int} : ui X k v k = v := if_pos rfl
theorem ui_n {k j : Nat} {v : Int} (h : j ≠ k) : ui X k v j = X j := if_neg h
theorem rnd_s (l : Nat) : rnd hi lo (l + 1) X = stp hi lo l (rnd hi lo l X) := rfl
theorem mvd_s (l : Nat) : mvd hi lo (l + 1) X = (mvd hi lo l X || !decide (rnd hi lo l X (lo l) + 1 ≤ rnd hi lo l X (hi l))) := rfl
theorem itr_s (r : Nat) : itr hi lo m (r + 1) X = rnd hi lo m (itr hi lo m r X) := rfl
theorem stp_ge (l s : Nat) : X s ≤ stp hi lo l X s := by
  unfold stp
  by_cases h : X (lo l) + 1 ≤ X (hi l)
  · rw [if_pos h]; omega
  · rw [if_neg h]
    by_cases e : s = hi l
    · rw [e, ui_s]; omega
    · rw [ui_n e]; omega
theorem rnd_ge : ∀ (l s : Nat), X s ≤ rnd hi lo l X s := by
  intro l
  induction l with
  | zero => intro s; exact Int.le_refl _
  | succ l ih => intro s; exact Int.le_trans (ih s) (stp_ge l s)
theorem rnd_mono {l l' : Nat} (h : l ≤ l') (s : Nat) : rnd hi lo l X s ≤ rnd hi lo l' X s := by
  induction l' with
  | zero => obtain rfl : l = 0 := by omega
            exact Int.le_refl _
  | succ l' ih =>
    by_cases e : l = l' + 1
    · rw [e]; exact Int.le_refl _
    · exact Int.le_trans (ih (by omega)) (stp_ge l' s)
/-- never above what is stable -/
theorem rnd_le (hb : ∀ l, l < m → hi l < n ∧ lo l < n) (hY : stb hi lo m Y) (h : ∀ s, s < n → X s ≤ Y s) : ∀ l, l ≤ m → ∀ s, s < n → rnd hi lo l X s ≤ Y s := by
  intro l
  induction l with
  | zero => intro _; exact h
  | succ l ih =>
    intro hl s hs
    have i := ih (by omega)
    rw [rnd_s]
    unfold stp
    by_cases c : rnd hi lo l X (lo l) + 1 ≤ rnd hi lo l X (hi l)
    · rw [if_pos c]; exact i s hs
    · rw [if_neg c]
      by_cases e : s = hi l
      · rw [e, ui_s]
        have := i (lo l) (hb l (by omega)).2
        have := hY l (by omega)
        omega
      · rw [ui_n e]; exact i s hs
theorem mvd_stb : ∀ l, mvd hi lo l X = false → rnd hi lo l X = X ∧ ∀ k, k < l → X (lo k) + 1 ≤ X (hi k) := by
  intro l
  induction l with
  | zero => intro _; exact ⟨rfl, fun k hk => by omega⟩
  | succ l ih =>
    intro h
    rw [mvd_s, Bool.or_eq_false_iff] at h
    obtain ⟨i1, i2⟩ := ih h.1
    have c : rnd hi lo l X (lo l) + 1 ≤ rnd hi lo l X (hi l) := by simpa using h.2
    refine ⟨by rw [rnd_s]; unfold stp; rw [if_pos c]; exact i1, fun k hk => ?_⟩
    by_cases e : k = l
    · subst e; rw [i1] at c; exact c
    · exact i2 k (by omega)
theorem stb_mvd (h : stb hi lo m X) : ∀ l, l ≤ m → mvd hi lo l X = false ∧ rnd hi lo l X = X := by
  intro l
  induction l with
  | zero => intro _; exact ⟨rfl, rfl⟩
  | succ l ih =>
    intro hl
    obtain ⟨i1, i2⟩ := ih (by omega)
    have c := h l (by omega)
    rw [mvd_s, rnd_s, i1, i2]
    unfold stp
    rw [if_pos c]
    exact ⟨by simp [c], rfl⟩
/-- each is as it was, or one above another -/
def tgt (hi lo : Nat → Nat) (m n : Nat) (X0 X : Nat → Int) : Prop := ∀ s, s < n → X s = X0 s ∨ ∃ l, l < m ∧ hi l = s ∧ X s ≤ X (lo l) + 1
theorem tgt_rnd (h : tgt hi lo m n X0 X) : ∀ l, l ≤ m → tgt hi lo m n X0 (rnd hi lo l X) := by
  intro l
  induction l with
  | zero => intro _; exact h
  | succ l ih =>
    intro hl s hs
    have i := ih (by omega) s hs
    have g : ∀ t, rnd hi lo l X t ≤ rnd hi lo (l + 1) X t := fun t => rnd_mono (by omega) t
    by_cases c : rnd hi lo l X (lo l) + 1 ≤ rnd hi lo l X (hi l)
    · have e : rnd hi lo (l + 1) X = rnd hi lo l X := by rw [rnd_s]; unfold stp; rw [if_pos c]
      rw [e]; exact i
    · have e : rnd hi lo (l + 1) X = ui (rnd hi lo l X) (hi l) (rnd hi lo l X (lo l) + 1) := by rw [rnd_s]; unfold stp; rw [if_neg c]
      by_cases es : s = hi l
      · refine Or.inr ⟨l, by omega, es.symm, ?_⟩
        have := g (lo l)
        have e2 : rnd hi lo (l + 1) X s = rnd hi lo l X (lo l) + 1 := by rw [e, es, ui_s]
        omega
      · have e2 : rnd hi lo (l + 1) X s = rnd hi lo l X s := by rw [e, ui_n es]
        rcases i with i | ⟨k, k1, k2, k3⟩
        · exact Or.inl (by rw [e2]; exact i)
        · have := g (lo k)
          exact Or.inr ⟨k, k1, k2, by omega⟩
theorem tgt_itr : ∀ r, tgt hi lo m n X0 (itr hi lo m r X0) := by
  intro r
  induction r with
  | zero => exact fun s _ => Or.inl rfl
  | succ r ih => rw [itr_s]; exact tgt_rnd ih m (Nat.le_refl _)
theorem itr_ge : ∀ (r s : Nat), X s ≤ itr hi lo m r X s := by
  intro r
  induction r with
  | zero => intro s; exact Int.le_refl _
  | succ r ih => intro s; rw [itr_s]; exact Int.le_trans (ih s) (rnd_ge m s)
theorem itr_le (hb : ∀ l, l < m → hi l < n ∧ lo l < n) (hY : stb hi lo m Y) (h : ∀ s, s < n → X s ≤ Y s) : ∀ r, ∀ s, s < n → itr hi lo m r X s ≤ Y s := by
  intro r
  induction r with
  | zero => exact h
  | succ r ih => rw [itr_s]; exact rnd_le hb hY ih m (Nat.le_refl _)
theorem itr_stb {r0 : Nat} (h : stb hi lo m (itr hi lo m r0 X)) : ∀ d, itr hi lo m (r0 + d) X = itr hi lo m r0 X := by
  intro d
  induction d with
  | zero => rfl
  | succ d ih => rw [← Nat.add_assoc, itr_s, ih]; exact (stb_mvd h m (Nat.le_refl _)).2
/-! how much is left -/
def lft (Y X : Nat → Int) : Nat → Nat
  | 0 => 0
  | s + 1 => lft Y X s + (Y s - X s).toNat
theorem lft_le (h : ∀ s, s < n → X s ≤ Z s) : ∀ k, k ≤ n → lft Y Z k ≤ lft Y X k := by
  intro k
  induction k with
  | zero => intro _; exact Nat.le_refl _
  | succ k ih =>
    intro hk
    have := ih (by omega)
    have := h k (by omega)
    unfold lft
    omega
theorem lft_lt (h : ∀ s, s < n → X s ≤ Z s) {t : Nat} (h1 : X t < Z t) (h2 : Z t ≤ Y t) : ∀ k, k ≤ n → t < k → lft Y Z k < lft Y X k := by
  intro k
  induction k with
  | zero => intro _ h; omega
  | succ k ih =>
    intro hk ht
    have a := lft_le (Y := Y) h k (by omega)
    have b := h k (by omega)
    unfold lft
    by_cases e : t = k
    · subst e; omega
    · have := ih (by omega) (by omega)
      omega
theorem mvd_ex (hb : ∀ l, l < m → hi l < n ∧ lo l < n) : ∀ l, l ≤ m → mvd hi lo l X = true → ∃ t, t < n ∧ X t < rnd hi lo l X t := by
  intro l
  induction l with
  | zero => intro _ h; cases h
  | succ l ih =>
    intro hl h
    rw [mvd_s, Bool.or_eq_true] at h
    rcases h with h | h
    · obtain ⟨t, t1, t2⟩ := ih (by omega) h
      exact ⟨t, t1, Int.lt_of_lt_of_le t2 (rnd_mono (by omega) t)⟩
    · have c : ¬ rnd hi lo l X (lo l) + 1 ≤ rnd hi lo l X (hi l) := by simpa using h
      refine ⟨hi l, (hb l (by omega)).1, ?_⟩
      rw [rnd_s]
      unfold stp
      rw [if_neg c, ui_s]
      have := rnd_ge (hi := hi) (lo := lo) (X := X) l (hi l)
      omega
/-- what is stable is reached -/
theorem reach (hb : ∀ l, l < m → hi l < n ∧ lo l < n) (hY : stb hi lo m Y) (h : ∀ s, s < n → X s ≤ Y s) : ∀ N r, lft Y (itr hi lo m r X) n ≤ N → ∃ R, stb hi lo m (itr hi lo m R X) := by
  intro N
  induction N with
  | zero =>
    intro r hN
    cases e : mvd hi lo m (itr hi lo m r X)
    · exact ⟨r, (mvd_stb m e).2⟩
    · obtain ⟨t, t1, t2⟩ := mvd_ex hb m (Nat.le_refl _) e
      have := lft_lt (Y := Y) (X := itr hi lo m r X) (Z := rnd hi lo m (itr hi lo m r X)) (n := n) (fun s _ => rnd_ge m s) t2 (rnd_le hb hY (itr_le hb hY h r) m (Nat.le_refl _) t t1) n (Nat.le_refl _) t1
      omega
  | succ N ih =>
    intro r hN
    cases e : mvd hi lo m (itr hi lo m r X)
    · exact ⟨r, (mvd_stb m e).2⟩
    · obtain ⟨t, t1, t2⟩ := mvd_ex hb m (Nat.le_refl _) e
      have := lft_lt (Y := Y) (X := itr hi lo m r X) (Z := rnd hi lo m (itr hi lo m r X)) (n := n) (fun s _ => rnd_ge m s) t2 (rnd_le hb hY (itr_le hb hY h r) m (Nat.le_refl _) t t1) n (Nat.le_refl _) t1
      exact ih (r + 1) (by rw [itr_s]; omega)
/-! one more is settled in each round -/
def uns (M X : Nat → Int) : Nat → Nat
  | 0 => 0
  | s + 1 => uns M X s + (if X s = M s then 0 else 1)
theorem uns_le (h : ∀ s, s < n → X s = M s → Z s = M s) : ∀ k, k ≤ n → uns M Z k ≤ uns M X k := by
  intro k
  induction k with
  | zero => intro _; exact Nat.le_refl _
  | succ k ih =>
    intro hk
    have a := ih (by omega)
    have b := h k (by omega)
    unfold uns
    by_cases e : X k = M k
    · rw [if_pos e, if_pos (b e)]; omega
    · rw [if_neg e]; split <;> omega
theorem uns_lt (h : ∀ s, s < n → X s = M s → Z s = M s) {t : Nat} (h1 : X t ≠ M t) (h2 : Z t = M t) : ∀ k, k ≤ n → t < k → uns M Z k < uns M X k := by
  intro k
  induction k with
  | zero => intro _ h; omega
  | succ k ih =>
    intro hk ht
    have a := uns_le h k (by omega)
    unfold uns
    by_cases e : t = k
    · subst e; rw [if_pos h2, if_neg h1]; omega
    · have c := ih (by omega) (by omega)
      have b := h k (by omega)
      by_cases e2 : X k = M k
      · rw [if_pos e2, if_pos (b e2)]; omega
      · rw [if_neg e2]; split <;> omega
theorem uns_0 : ∀ k, uns M X k = 0 → ∀ s, s < k → X s = M s := by
  intro k
  induction k with
  | zero => intro _ s h; omega
  | succ k ih =>
    intro h s hs
    unfold uns at h
    by_cases e : X k = M k
    · by_cases es : s = k
      · rw [es]; exact e
      · exact ih (by omega) s (by omega)
    · rw [if_neg e] at h; omega
theorem uns_n : ∀ k, uns M X k ≤ k := by
  intro k
  induction k with
  | zero => exact Nat.le_refl _
  | succ k ih => unfold uns; split <;> omega
theorem least_of (Q : Nat → Prop) : ∀ n, (∃ s, s < n ∧ Q s) → ∃ s, s < n ∧ Q s ∧ ∀ t, t < n → Q t → M s ≤ M t := by
  intro n
  induction n with
  | zero => rintro ⟨s, h, _⟩; omega
  | succ n ih =>
    rintro ⟨s, h1, h2⟩
    by_cases hq : ∃ s, s < n ∧ Q s
    · obtain ⟨a, a1, a2, a3⟩ := ih hq
      by_cases hn : Q n ∧ M n < M a
      · refine ⟨n, by omega, hn.1, fun t ht qt => ?_⟩
        by_cases e : t = n
        · rw [e]; exact Int.le_refl _
        · have := a3 t (by omega) qt
          omega
      · refine ⟨a, by omega, a2, fun t ht qt => ?_⟩
        by_cases e : t = n
        · subst e
          by_cases h : M t < M a
          · exact absurd ⟨qt, h⟩ hn
          · omega
        · exact a3 t (by omega) qt
    · have e : s = n := by
        rcases Nat.lt_or_ge s n with h | h
        · exact absurd ⟨s, h, h2⟩ hq
        · omega
      subst e
      refine ⟨s, by omega, h2, fun t ht qt => ?_⟩
      by_cases e : t = s
      · rw [e]; exact Int.le_refl _
      · exact absurd ⟨t, by omega, qt⟩ hq
/-- the lowest that isn't settled is settled next -/
theorem settle1 (hb : ∀ l, l < m → hi l < n ∧ lo l < n) (hM : stb hi lo m M) (hT : tgt hi lo m n X0 M) (h0 : ∀ s, s < n → X0 s ≤ X s) (h1 : ∀ s, s < n → X s ≤ M s) (hu : uns M X n ≠ 0) : uns M (rnd hi lo m X) n < uns M X n := by
  have hex : ∃ s, s < n ∧ X s ≠ M s := by
    refine Classical.byContradiction fun hn => hu ?_
    have hall : ∀ s, s < n → X s = M s := fun s hs => Classical.byContradiction fun hc => hn ⟨s, hs, hc⟩
    have : ∀ k, k ≤ n → uns M X k = 0 := by
      intro k
      induction k with
      | zero => intro _; rfl
      | succ k ih => intro hk; unfold uns; rw [ih (by omega), if_pos (hall k (by omega))]
    exact this n (Nat.le_refl _)
  obtain ⟨s, s1, s2, s3⟩ := least_of (M := M) (fun s => X s ≠ M s) n hex
  have hlt : X s < M s := by have := h1 s s1; omega
  have hr := rnd_le hb hM h1
  rcases hT s s1 with e | ⟨l, l1, l2, l3⟩
  · have := h0 s s1; omega
  · have hw := hM l l1
    rw [l2] at hw
    have hset : X (lo l) = M (lo l) := Classical.byContradiction fun hc => by
      have := s3 (lo l) (hb l l1).2 hc
      omega
    have hX : rnd hi lo m X s = M s := by
      have g1 := rnd_ge (hi := hi) (lo := lo) (X := X) l (lo l)
      have g2 : rnd hi lo l X (lo l) + 1 ≤ rnd hi lo (l + 1) X s := by
        rw [rnd_s]
        unfold stp
        by_cases c : rnd hi lo l X (lo l) + 1 ≤ rnd hi lo l X (hi l)
        · rw [if_pos c, ← l2]; exact c
        · rw [if_neg c, ← l2, ui_s]; exact Int.le_refl _
      have g3 := rnd_mono (hi := hi) (lo := lo) (X := X) (show l + 1 ≤ m by omega) s
      have g4 := hr m (Nat.le_refl _) s s1
      omega
    refine uns_lt (fun t ht et => ?_) s2 hX n (Nat.le_refl _) s1
    have g1 := rnd_ge (hi := hi) (lo := lo) (X := X) m t
    have g2 := hr m (Nat.le_refl _) t ht
    omega
/-- after n - 1 rounds all is settled -/
theorem settled (hb : ∀ l, l < m → hi l < n ∧ lo l < n) (hY : stb hi lo m Y) : ∀ r, n ≤ r + 1 → stb hi lo m (itr hi lo m r X0) := by
  -- a stable one above X0
  obtain ⟨d, hd⟩ : ∃ d : Int, ∀ s, s < n → X0 s ≤ Y s + d := by
    have : ∀ k, ∃ d : Int, ∀ s, s < k → X0 s ≤ Y s + d := by
      intro k
      induction k with
      | zero => exact ⟨0, fun s hs => by omega⟩
      | succ k ih =>
        obtain ⟨d, hd⟩ := ih
        refine ⟨max d (X0 k - Y k), fun s hs => ?_⟩
        by_cases e : s = k
        · subst e; omega
        · have := hd s (by omega); omega
    exact this n
  have hY' : stb hi lo m (fun s => Y s + d) := fun l hl => by have := hY l hl; show Y (lo l) + d + 1 ≤ Y (hi l) + d; omega
  obtain ⟨R, hM⟩ := reach hb hY' hd _ 0 (Nat.le_refl _)
  have hT := tgt_itr (hi := hi) (lo := lo) (m := m) (n := n) (X0 := X0) R
  have hle : ∀ r, ∀ s, s < n → itr hi lo m r X0 s ≤ itr hi lo m R X0 s := itr_le hb hM (fun s _ => itr_ge R s)
  have h0 : n ≠ 0 → uns (itr hi lo m R X0) X0 n ≤ n - 1 := by
    intro hn
    obtain ⟨s, s1, -, s3⟩ := least_of (M := itr hi lo m R X0) (fun _ => True) n ⟨0, by omega, trivial⟩
    have e : X0 s = itr hi lo m R X0 s := by
      rcases hT s s1 with e | ⟨l, l1, l2, l3⟩
      · exact e.symm
      · have a := hM l l1
        have b := s3 (lo l) (hb l l1).2 trivial
        rw [l2] at a
        omega
    have : ∀ k, s < k → uns (itr hi lo m R X0) X0 k ≤ k - 1 := by
      intro k
      induction k with
      | zero => intro h; omega
      | succ k ih =>
        intro hk
        unfold uns
        by_cases es : s = k
        · subst es
          rw [if_pos e]
          have := uns_n (M := itr hi lo m R X0) (X := X0) s
          omega
        · have := ih (by omega)
          split <;> omega
    exact this n s1
  have hr : ∀ r, uns (itr hi lo m R X0) (itr hi lo m r X0) n ≤ n - 1 - r := by
    intro r
    induction r with
    | zero =>
      by_cases hn : n = 0
      · have := uns_n (M := itr hi lo m R X0) (X := X0) n
        show uns (itr hi lo m R X0) X0 n ≤ _
        omega
      · exact h0 hn
    | succ r ih =>
      rw [itr_s]
      by_cases hu : uns (itr hi lo m R X0) (itr hi lo m r X0) n = 0
      · have := uns_le (M := itr hi lo m R X0) (X := itr hi lo m r X0) (Z := rnd hi lo m (itr hi lo m r X0)) (n := n) (fun t ht et => by
          have g1 := rnd_ge (hi := hi) (lo := lo) (X := itr hi lo m r X0) m t
          have g2 := hle (r + 1) t ht
          rw [itr_s] at g2
          omega) n (Nat.le_refl _)
        omega
      · have := settle1 (X := itr hi lo m r X0) hb hM hT (fun s _ => itr_ge r s) (hle r) hu
        omega
  intro r hn
  have := hr r
  have hz := uns_0 (M := itr hi lo m R X0) (X := itr hi lo m r X0) n (by omega)
  intro l hl
  rw [hz _ (hb l hl).1, hz _ (hb l hl).2]
  exact hM l hl
end PU
