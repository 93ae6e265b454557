/-! whose hand -/
def hn (D : Nat → Int32) (s : Nat) : Nat := (D (5 + 7 * s + 3)).toNatClampNeg
def whs (D : Nat → Int32) (lo : Int) : Nat → Nat
  | 0 => 0
  | i + 1 => if lo ≤ (hn D i : Int) ∧ (hn D i : Int) ≤ lo + 9 then whs D lo i ||| 2 ^ i else whs D lo i
def mnh (D : Nat → Int32) (X : Nat) : Nat → Nat
  | 0 => 99
  | i + 1 => if X.testBit i = true then min (mnh D X i) (hn D i) else mnh D X i
def mxh (D : Nat → Int32) (X : Nat) : Nat → Nat
  | 0 => 0
  | i + 1 => if X.testBit i = true then max (mxh D X i) (hn D i) else mxh D X i
def isH (D : Nat → Int32) (n X high : Nat) : Prop := X = 0 ∨ (((mxh D X n : Int) - mnh D X n ≤ 9) ∧ ((mxh D X n : Int) - high ≤ 9) ∧ ((high : Int) - mnh D X n ≤ 9))
def pcs (a : Nat) : Nat → Nat
  | 0 => 0
  | i + 1 => pcs a i + (a.testBit i).toNat
section RHN
variable {B L : Nat} {xs : Nat → Int32} {C : HC} {I J K : HI} {D : Nat → Int32}
theorem whs_s (lo : Int) (i : Nat) : whs D lo (i + 1) = if lo ≤ (hn D i : Int) ∧ (hn D i : Int) ≤ lo + 9 then whs D lo i ||| 2 ^ i else whs D lo i := rfl
theorem mnh_s (X i : Nat) : mnh D X (i + 1) = if X.testBit i = true then min (mnh D X i) (hn D i) else mnh D X i := rfl
theorem mxh_s (X i : Nat) : mxh D X (i + 1) = if X.testBit i = true then max (mxh D X i) (hn D i) else mxh D X i := rfl
theorem hn_eq {s : Nat} (h : wS D s) : D (5 + 7 * s + 3) = nI (hn D s) ∧ hn D s ≤ 99 := by
  obtain ⟨-, -, -, ⟨a, a1, a2⟩, -⟩ := h
  have : hn D s = a := by unfold hn; rw [a2, nI_clamp (by omega)]
  rw [this]
  exact ⟨a2, a1⟩
theorem whs_lt (lo : Int) {n : Nat} : ∀ i, i ≤ n → whs D lo i < 2 ^ n := by
  intro i
  induction i with
  | zero => intro _; exact Nat.two_pow_pos n
  | succ i ih =>
    intro hi
    rw [whs_s]
    split
    · exact or_lt (ih (by omega)) (by omega)
    · exact ih (by omega)
theorem whs_t (lo : Int) (j : Nat) : ∀ i, (whs D lo i).testBit j = true ↔ j < i ∧ lo ≤ (hn D j : Int) ∧ (hn D j : Int) ≤ lo + 9 := by
  intro i
  induction i with
  | zero => simp [whs]
  | succ i ih =>
    rw [whs_s]
    by_cases e : lo ≤ (hn D i : Int) ∧ (hn D i : Int) ≤ lo + 9
    · rw [if_pos e, tb_set, Bool.or_eq_true, ih]
      constructor
      · rintro (⟨h1, h2⟩ | h)
        · exact ⟨by omega, h2⟩
        · have : i = j := by simpa using h
          subst this; exact ⟨by omega, e⟩
      · rintro ⟨h1, h2⟩
        by_cases el : j = i
        · subst el; exact Or.inr (by simp)
        · exact Or.inl ⟨by omega, h2⟩
    · rw [if_neg e, ih]
      constructor
      · rintro ⟨h1, h2⟩
        exact ⟨by omega, h2⟩
      · rintro ⟨h1, h2⟩
        by_cases el : j = i
        · subst el; exact absurd h2 e
        · exact ⟨by omega, h2⟩
theorem bc_eq : ∀ a, a < 256 → M_Int_bitCount (nI a) = nI (pc a) := by decide +kernel
/-! bounds of the hands in a set -/
theorem mn_le {X j : Nat} : ∀ i, j < i → X.testBit j = true → mnh D X i ≤ hn D j ∧ hn D j ≤ mxh D X i := by
  intro i
  induction i with
  | zero => intro h; omega
  | succ i ih =>
    intro h e
    rw [mnh_s, mxh_s]
    by_cases el : j = i
    · subst el; rw [if_pos e, if_pos e]; omega
    · have := ih (by omega) e
      split <;> omega
theorem mn_at {X : Nat} (hh : ∀ i, hn D i ≤ 99 ∨ True) : ∀ i, (∀ j, j < i → hn D j ≤ 99) → (∀ j, j < i → X.testBit j = false) ∧ mnh D X i = 99 ∧ mxh D X i = 0 ∨ (∃ j, j < i ∧ X.testBit j = true ∧ mnh D X i = hn D j) ∧ (∃ j, j < i ∧ X.testBit j = true ∧ mxh D X i = hn D j) := by
  intro i
  induction i with
  | zero => intro _; exact Or.inl ⟨fun j hj => by omega, rfl, rfl⟩
  | succ i ih =>
    intro h9
    rw [mnh_s, mxh_s]
    by_cases e : X.testBit i = true
    · rw [if_pos e, if_pos e]
      have := h9 i (by omega)
      rcases ih (fun j hj => h9 j (by omega)) with ⟨a1, a2, a3⟩ | ⟨⟨j, j1, j2, j3⟩, ⟨k, k1, k2, k3⟩⟩
      · exact Or.inr ⟨⟨i, by omega, e, by omega⟩, ⟨i, by omega, e, by omega⟩⟩
      · refine Or.inr ⟨?_, ?_⟩
        · rcases Nat.le_total (mnh D X i) (hn D i) with h | h
          · exact ⟨j, by omega, j2, by omega⟩
          · exact ⟨i, by omega, e, by omega⟩
        · rcases Nat.le_total (mxh D X i) (hn D i) with h | h
          · exact ⟨i, by omega, e, by omega⟩
          · exact ⟨k, by omega, k2, by omega⟩
    · rw [if_neg e, if_neg e]
      rcases ih (fun j hj => h9 j (by omega)) with ⟨a1, a2, a3⟩ | ⟨⟨j, j1, j2, j3⟩, ⟨k, k1, k2, k3⟩⟩
      · refine Or.inl ⟨fun j hj => ?_, a2, a3⟩
        by_cases el : j = i
        · rw [el]; exact tb_nt e
        · exact a1 j (by omega)
      · exact Or.inr ⟨⟨j, by omega, j2, j3⟩, ⟨k, by omega, k2, k3⟩⟩
theorem eq0_of {X n : Nat} (hX : X < 2 ^ n) (h : ∀ j, j < n → X.testBit j = false) : X = 0 := by
  apply Nat.eq_of_testBit_eq
  intro j
  rw [Nat.zero_testBit]
  by_cases hj : j < n
  · exact h j hj
  · exact Nat.testBit_lt_two_pow (Nat.lt_of_lt_of_le hX (Nat.pow_le_pow_right (by decide) (by omega)))
/-- a window is a hand -/
theorem win_H {n high : Nat} {lo : Int} (h9 : ∀ j, j < n → hn D j ≤ 99) (h1 : (high : Int) - 9 ≤ lo) (h2 : lo ≤ high) : isH D n (whs D lo n) high := by
  rcases mn_at (D := D) (X := whs D lo n) (fun _ => Or.inr trivial) n h9 with ⟨a1, -, -⟩ | ⟨⟨j, j1, j2, j3⟩, ⟨k, k1, k2, k3⟩⟩
  · exact Or.inl (eq0_of (whs_lt lo n (Nat.le_refl _)) a1)
  · have p1 := (whs_t lo j n).mp j2
    have p2 := (whs_t lo k n).mp k2
    refine Or.inr ?_
    rw [j3, k3]
    omega
/-- a hand is within a window -/
theorem H_win {n high X : Nat} (hX : X < 2 ^ n) (hH : isH D n X high) : ∃ d, d < 10 ∧ sub X (whs D ((high : Int) - 9 + (d : Nat)) n) := by
  rcases hH with rfl | ⟨h1, h2, h3⟩
  · exact ⟨0, by omega, fun j hj => by rw [Nat.zero_testBit] at hj; cases hj⟩
  · refine ⟨(min ((mnh D X n : Int)) high - high + 9).toNat, by omega, fun j hj => ?_⟩
    have hjn : j < n := by
      rcases Nat.lt_or_ge j n with h | h
      · exact h
      · have := Nat.testBit_lt_two_pow (Nat.lt_of_lt_of_le hX (Nat.pow_le_pow_right (by decide) h))
        rw [this] at hj; cases hj
    have := mn_le (D := D) n hjn hj
    refine (whs_t _ j n).mpr ⟨hjn, ?_, ?_⟩
    · omega
    · omega
theorem pc_sub {X W : Nat} (h : sub X W) : pc X ≤ pc W := by
  have hb : ∀ j, (X.testBit j).toNat ≤ (W.testBit j).toNat := fun j => by
    cases e : X.testBit j
    · exact Nat.zero_le _
    · rw [h j e]; exact Nat.le_refl _
  unfold pc
  have h0 := hb 0
  have h1 := hb 1
  have h2 := hb 2
  have h3 := hb 3
  have h4 := hb 4
  have h5 := hb 5
  have h6 := hb 6
  have h7 := hb 7
  omega
theorem toN_inj {a b : Bool} (h : a.toNat = b.toNat) : a = b := by cases a <;> cases b <;> simp_all
theorem pc_eq {X W : Nat} (hX : X < 256) (hW : W < 256) (h : sub X W) (e : pc X = pc W) : X = W := by
  have hb : ∀ j, (X.testBit j).toNat ≤ (W.testBit j).toNat := fun j => by
    cases e : X.testBit j
    · exact Nat.zero_le _
    · rw [h j e]; exact Nat.le_refl _
  unfold pc at e
  have h0 := hb 0
  have h1 := hb 1
  have h2 := hb 2
  have h3 := hb 3
  have h4 := hb 4
  have h5 := hb 5
  have h6 := hb 6
  have h7 := hb 7
  apply Nat.eq_of_testBit_eq
  intro j
  rcases (show j = 0 ∨ j = 1 ∨ j = 2 ∨ j = 3 ∨ j = 4 ∨ j = 5 ∨ j = 6 ∨ j = 7 ∨ 8 ≤ j by omega) with rfl | rfl | rfl | rfl | rfl | rfl | rfl | rfl | hj
  · exact toN_inj (by omega)
  · exact toN_inj (by omega)
  · exact toN_inj (by omega)
  · exact toN_inj (by omega)
  · exact toN_inj (by omega)
  · exact toN_inj (by omega)
  · exact toN_inj (by omega)
  · exact toN_inj (by omega)
  · rw [tb_hi hX hj, tb_hi hW hj]
theorem pc_0 : ∀ a, a < 256 → pc a = 0 → a = 0 := by decide +kernel
theorem hand_uni {n high F G : Nat} (hn8 : n ≤ 8) (h9 : ∀ j, j < n → hn D j ≤ 99) (f0 : F < 2 ^ n) (g0 : G < 2 ^ n) (f1 : F = 0 ∨ ∃ d : Nat, d < 10 ∧ F = whs D ((high : Int) - 9 + (d : Nat)) n) (f2 : ∀ d : Nat, d < 10 → pc (whs D ((high : Int) - 9 + (d : Nat)) n) < pc F ∨ (pc (whs D ((high : Int) - 9 + (d : Nat)) n) = pc F ∧ F ≤ whs D ((high : Int) - 9 + (d : Nat)) n)) (g1 : G = 0 ∨ isH D n G high) (g2 : ∀ X, 1 ≤ X → X < 2 ^ n → isH D n X high → pc X < pc G ∨ (pc X = pc G ∧ G ≤ X)) : F = G := by
  have h256 := lt_p2 n (by omega)
  have hF : isH D n F high := by
    rcases f1 with rfl | ⟨d, d1, rfl⟩
    · exact Or.inl rfl
    · exact win_H h9 (by omega) (by omega)
  have hG : isH D n G high := g1.elim (fun e => Or.inl e) id
  obtain ⟨d, d1, d2⟩ := H_win g0 hG
  have w := whs_lt (D := D) ((high : Int) - 9 + (d : Nat)) n (Nat.le_refl n)
  have p1 := pc_sub d2
  have p2 := f2 d d1
  by_cases eF : F = 0
  · subst eF
    have : pc 0 = 0 := by decide
    exact (pc_0 G (by omega) (by omega)).symm
  · have p3 := g2 F (by omega) f0 hF
    have e : pc G = pc F := by omega
    have e2 : G = whs D ((high : Int) - 9 + (d : Nat)) n := pc_eq (by omega) (by omega) d2 (by omega)
    omega
/-! the class -/
theorem hf4 (h : Rel B L xs C I) {x : Int32} {lo : Int} (hx : x.toInt = lo) (h1 : -9 ≤ lo) (h2 : lo ≤ 99) : ∀ f i, i ≤ nS (I 89) → nS (I 89) - i < f → L_Wall_handsFrom_4 C x I f (nI (whs (I 89) lo i)) (nI i) = some (nI (whs (I 89) lo (nS (I 89)))) := by
  have n8 := h.n8
  have h256 := lt_p2 (nS (I 89)) (by omega)
  intro f
  induction f with
  | zero => intro i _ h; omega
  | succ f ih =>
    intro i hi hf
    rw [L_Wall_handsFrom_4, st_nI h]
    by_cases e : nS (I 89) ≤ i
    · rw [if_pos (nI_le e (by omega))]
      obtain rfl : i = nS (I 89) := by omega
      rfl
    · obtain ⟨hws, r1, r2, r3⟩ := h.za.1.2.1 i (by omega)
      obtain ⟨q1, q2⟩ := hn_eq hws
      have hg := h.gT (s := i) (by omega)
      have hb : (bnd (nI i) 8 && gS C (hT C i)) = true := by rw [hg, bnd_nI (by omega) (by omega)]; rfl
      have hs := whs_s (D := I 89) lo i
      have hw := whs_lt (D := I 89) (n := nS (I 89)) lo i (by omega)
      rw [if_neg (nI_ge (by omega) (by omega)), nI_clamp (by omega), grd_t hb, r3 3 (by omega) (by omega), q1, nI_1]
      have ex : (x + 9).toInt = lo + 9 := by
        rw [i_add (by rw [hx, show (9 : Int32).toInt = 9 from rfl]; omega), hx]; rfl
      by_cases c1 : nI (hn (I 89) i) < x
      · rw [if_pos c1]
        rw [i_lt, nI_toInt (by omega), hx] at c1
        rw [if_neg (by omega)] at hs
        rw [← hs]
        exact ih (i + 1) (by omega) (by omega)
      · rw [if_neg c1]
        rw [i_lt, nI_toInt (by omega), hx] at c1
        by_cases c2 : x + 9 < nI (hn (I 89) i)
        · rw [if_pos c2]
          rw [i_lt, nI_toInt (by omega), ex] at c2
          rw [if_neg (by omega)] at hs
          rw [← hs]
          exact ih (i + 1) (by omega) (by omega)
        · rw [if_neg c2]
          rw [i_lt, nI_toInt (by omega), ex] at c2
          rw [if_pos (by omega)] at hs
          rw [mk_set _ (by omega) i (by omega), ← hs]
          exact ih (i + 1) (by omega) (by omega)
theorem hf_c (h : Rel B L xs C I) {x : Int32} {lo : Int} (hx : x.toInt = lo) (h1 : -9 ≤ lo) (h2 : lo ≤ 99) : M_Wall_handsFrom C I x = some (nI (whs (I 89) lo (nS (I 89)))) := by
  have n8 := h.n8
  unfold M_Wall_handsFrom
  rw [show L_Wall_handsFrom_4 C x I 1000 0 0 = _ from hf4 h hx h1 h2 1000 0 (by omega) (by omega), Option.bind_some]
theorem hand_c (h : Rel B L xs C I) {high : Nat} (hh : high ≤ 99) : ∀ f d F, d ≤ 10 → 10 - d < f → F < 2 ^ nS (I 89) → (F = 0 ∨ ∃ e : Nat, e < d ∧ F = whs (I 89) ((high : Int) - 9 + (e : Nat)) (nS (I 89))) → (∀ e : Nat, e < d → pc (whs (I 89) ((high : Int) - 9 + (e : Nat)) (nS (I 89))) < pc F ∨ (pc (whs (I 89) ((high : Int) - 9 + (e : Nat)) (nS (I 89))) = pc F ∧ F ≤ whs (I 89) ((high : Int) - 9 + (e : Nat)) (nS (I 89)))) → ∃ F', L_H_hand_22 C (nI high) I f (nI F) (nI high - 9 + nI d) = some (nI F') ∧ F' < 2 ^ nS (I 89) ∧ (F' = 0 ∨ ∃ e : Nat, e < 10 ∧ F' = whs (I 89) ((high : Int) - 9 + (e : Nat)) (nS (I 89))) ∧ (∀ e : Nat, e < 10 → pc (whs (I 89) ((high : Int) - 9 + (e : Nat)) (nS (I 89))) < pc F' ∨ (pc (whs (I 89) ((high : Int) - 9 + (e : Nat)) (nS (I 89))) = pc F' ∧ F' ≤ whs (I 89) ((high : Int) - 9 + (e : Nat)) (nS (I 89)))) := by
  have n8 := h.n8
  have h256 := lt_p2 (nS (I 89)) (by omega)
  intro f
  induction f with
  | zero => intro d F _ h; omega
  | succ f ih =>
    intro d F hd hf hF0 hF1 hF2
    have e9 : (9 : Int32).toInt = 9 := rfl
    have ex : (nI high - 9 + nI d).toInt = (high : Int) - 9 + (d : Nat) := by
      have es : (nI high - 9).toInt = (high : Int) - 9 := by
        rw [i_sub (by rw [nI_toInt (by omega), e9]; omega), nI_toInt (by omega), e9]
      rw [i_add (by rw [es, nI_toInt (by omega)]; omega), es, nI_toInt (by omega)]
    rw [L_H_hand_22]
    by_cases e : d = 10
    · subst e
      rw [if_pos (by rw [i_lt, ex, nI_toInt (by omega)]; omega)]
      exact ⟨F, rfl, hF0, hF1, hF2⟩
    · have hw := whs_lt (D := I 89) ((high : Int) - 9 + (d : Nat)) (nS (I 89)) (Nat.le_refl _)
      rw [if_neg (by rw [i_lt, ex, nI_toInt (by omega)]; omega), hf_c h ex (by omega) (by omega), Option.bind_some, bc_eq _ (by omega), bc_eq _ (by omega), Int32.add_assoc, nI_1]
      have pw := pc_le (whs (I 89) ((high : Int) - 9 + (d : Nat)) (nS (I 89))) (by omega)
      have pf := pc_le F (by omega)
      generalize hW : whs (I 89) ((high : Int) - 9 + (d : Nat)) (nS (I 89)) = W at *
      have es : (nI (pc W) - nI (pc F)).toInt = (pc W : Int) - pc F := pk_sub_toInt (by omega) (by omega)
      have z0 : (0 : Int32).toInt = 0 := rfl
      have d1 : d + 1 ≤ 10 := by clear hF1 hF2 ih; omega
      have d2 : 10 - (d + 1) < f := by clear hF1 hF2 ih; omega
      have keep : (pc W < pc F ∨ (pc W = pc F ∧ F ≤ W)) → ∃ F', L_H_hand_22 C (nI high) I f (nI F) (nI high - 9 + nI (d + 1)) = some (nI F') ∧ F' < 2 ^ nS (I 89) ∧ (F' = 0 ∨ ∃ e : Nat, e < 10 ∧ F' = whs (I 89) ((high : Int) - 9 + (e : Nat)) (nS (I 89))) ∧ (∀ e : Nat, e < 10 → pc (whs (I 89) ((high : Int) - 9 + (e : Nat)) (nS (I 89))) < pc F' ∨ (pc (whs (I 89) ((high : Int) - 9 + (e : Nat)) (nS (I 89))) = pc F' ∧ F' ≤ whs (I 89) ((high : Int) - 9 + (e : Nat)) (nS (I 89)))) := by
        intro hk
        refine ih (d + 1) F d1 d2 hF0 ?_ ?_
        · rcases hF1 with h | ⟨e, e1, e2⟩
          · exact Or.inl h
          · exact Or.inr ⟨e, by omega, e2⟩
        · intro e he
          by_cases ee : e = d
          · rw [ee, hW]; exact hk
          · exact hF2 e (by omega)
      have take : (pc F < pc W ∨ (pc W = pc F ∧ W < F)) → ∃ F', L_H_hand_22 C (nI high) I f (nI W) (nI high - 9 + nI (d + 1)) = some (nI F') ∧ F' < 2 ^ nS (I 89) ∧ (F' = 0 ∨ ∃ e : Nat, e < 10 ∧ F' = whs (I 89) ((high : Int) - 9 + (e : Nat)) (nS (I 89))) ∧ (∀ e : Nat, e < 10 → pc (whs (I 89) ((high : Int) - 9 + (e : Nat)) (nS (I 89))) < pc F' ∨ (pc (whs (I 89) ((high : Int) - 9 + (e : Nat)) (nS (I 89))) = pc F' ∧ F' ≤ whs (I 89) ((high : Int) - 9 + (e : Nat)) (nS (I 89)))) := by
        intro hk
        refine ih (d + 1) W d1 d2 hw (Or.inr ⟨d, Nat.lt_succ_self d, hW.symm⟩) ?_
        intro e he
        by_cases ee : e = d
        · rw [ee, hW]; exact Or.inr ⟨rfl, Nat.le_refl _⟩
        · have := hF2 e (by omega)
          omega
      by_cases c1 : (0 : Int32) < nI (pc W) - nI (pc F)
      · rw [if_pos c1]
        rw [i_lt, es, z0] at c1
        exact take (Or.inl (by omega))
      · rw [if_neg c1]
        rw [i_lt, es, z0] at c1
        by_cases c2 : nI (pc W) - nI (pc F) = 0
        · rw [if_pos c2]
          rw [i_eq, es, z0] at c2
          by_cases c3 : nI F ≤ nI W
          · rw [if_pos c3]
            rw [nI_leI (by omega) (by omega)] at c3
            exact keep (Or.inr ⟨by omega, c3⟩)
          · rw [if_neg c3]
            rw [nI_leI (by omega) (by omega)] at c3
            exact take (Or.inr ⟨by omega, by omega⟩)
        · rw [if_neg c2]
          rw [i_eq, es, z0] at c2
          exact keep (Or.inl (by omega))
/-! the reference -/
theorem ones4 {a : Nat} (ha : a < 256) : ∀ f i, i ≤ 8 → 8 - i < f → L_Model_ones_4 (nI a) J f (nI (pcs a i)) (nI i) = some (nI (pcs a 8)) := by
  intro f
  induction f with
  | zero => intro i _ h; omega
  | succ f ih =>
    intro i hi hf
    rw [L_Model_ones_4]
    by_cases e : 8 ≤ i
    · rw [if_pos (c_le 8 8 e (by omega))]
      obtain rfl : i = 8 := by omega
      rfl
    · rw [if_neg (c_nle 8 8 (by omega)), mk_bit a ha i (by omega), nI_1]
      have := ih (i + 1) (by omega) (by omega)
      rw [show pcs a (i + 1) = pcs a i + (a.testBit i).toNat from rfl] at this
      cases e2 : a.testBit i
      · rw [e2] at this
        rw [if_neg (show ¬ (false = true) by decide), Int32.add_zero]
        exact this
      · rw [e2] at this
        rw [if_pos rfl, nI_1]
        exact this
theorem ones_m {a : Nat} (ha : a < 256) : M_Model_ones J (nI a) = some (nI (pc a)) := by
  unfold M_Model_ones
  rw [show L_Model_ones_4 (nI a) J 1000 0 0 = _ from ones4 ha 1000 0 (by omega) (by omega), Option.bind_some]
  have : pcs a 8 = pc a := by simp [pcs, pc]
  rw [this]
theorem ish15 (hD : WD D) (h89 : J 89 = D) {X : Nat} {x3 x4 : Int32} (hX : X < 256) : ∀ f i, i ≤ nS D → nS D - i < f → L_Model_isHand_15 (nI X) x3 x4 J f (nI (mnh D X i)) (nI (mxh D X i)) (nI i) = some (nI (mnh D X (nS D)), nI (mxh D X (nS D))) := by
  have n8 := hD.1.2
  have h99 : ∀ i, i ≤ nS D → mnh D X i ≤ 99 ∧ mxh D X i ≤ 99 := by
    intro i
    induction i with
    | zero => intro _; exact ⟨Nat.le_refl _, Nat.zero_le _⟩
    | succ i ih =>
      intro hi
      have := ih (by omega)
      have := (hn_eq (hD.2.2.2.2.1 i (by omega))).2
      rw [mnh_s, mxh_s]
      split <;> omega
  intro f
  induction f with
  | zero => intro i _ h; omega
  | succ f ih =>
    intro i hi hf
    rw [L_Model_isHand_15, h89, hD.1.1]
    by_cases e : nS D ≤ i
    · rw [if_pos (nI_le e (by omega))]
      obtain rfl : i = nS D := by omega
      rfl
    · obtain ⟨q1, q2⟩ := hn_eq (hD.2.2.2.2.1 i (by omega))
      have q3 := h99 i (by omega)
      rw [if_neg (nI_ge (by omega) (by omega)), mk_bit X hX i (by omega), show M_Model_of J (nI i) 3 = _ from of_m (k := 3) (by omega) (by omega), Option.bind_some, h89, q1, nI_1]
      have hn1 := mnh_s (D := D) X i
      have hx1 := mxh_s (D := D) X i
      have hih := ih (i + 1) (by omega) (by omega)
      by_cases eb : X.testBit i = true
      · rw [if_pos eb] at hn1 hx1
        rw [hn1, hx1] at hih
        rw [if_pos eb, if_pos rfl]
        by_cases c1 : mnh D X i ≤ hn D i
        · rw [if_pos (nI_le c1 (by omega))]
          rw [Nat.min_eq_left c1] at hih
          by_cases c2 : hn D i ≤ mxh D X i
          · rw [if_pos (nI_le c2 (by omega))]
            rw [Nat.max_eq_left c2] at hih
            exact hih
          · rw [if_neg (nI_ge (by omega) (by omega))]
            rw [Nat.max_eq_right (by omega)] at hih
            exact hih
        · rw [if_neg (nI_ge (by omega) (by omega))]
          rw [Nat.min_eq_right (by omega)] at hih
          by_cases c2 : hn D i ≤ mxh D X i
          · rw [if_pos (nI_le c2 (by omega))]
            rw [Nat.max_eq_left c2] at hih
            exact hih
          · rw [if_neg (nI_ge (by omega) (by omega))]
            rw [Nat.max_eq_right (by omega)] at hih
            exact hih
      · rw [if_neg eb] at hn1 hx1
        rw [hn1, hx1] at hih
        rw [if_neg eb, if_neg (show ¬ (0 : Int32) = 1 by decide)]
        exact hih
theorem isH_m (hD : WD D) (h89 : J 89 = D) {X high : Nat} (hX : X < 256) (hh : high ≤ 99) : (isH D (nS D) X high ∧ M_Model_isHand J (nI X) (nI high) = some 1) ∨ (¬ isH D (nS D) X high ∧ M_Model_isHand J (nI X) (nI high) = some 0) := by
  have n8 := hD.1.2
  have h99 : mnh D X (nS D) ≤ 99 ∧ mxh D X (nS D) ≤ 99 := by
    have : ∀ i, i ≤ nS D → mnh D X i ≤ 99 ∧ mxh D X i ≤ 99 := by
      intro i
      induction i with
      | zero => intro _; exact ⟨Nat.le_refl _, Nat.zero_le _⟩
      | succ i ih =>
        intro hi
        have := ih (by omega)
        have := (hn_eq (hD.2.2.2.2.1 i (by omega))).2
        rw [mnh_s, mxh_s]
        split <;> omega
    exact this _ (Nat.le_refl _)
  unfold M_Model_isHand
  rw [show L_Model_isHand_15 (nI X) (nI high) (nI high) J 1000 99 0 0 = _ from ish15 hD h89 hX 1000 0 (by omega) (by omega), Option.bind_some]
  unfold isH
  by_cases e : X = 0
  · rw [if_pos (by rw [e]; rfl)]
    exact Or.inl ⟨Or.inl e, rfl⟩
  · rw [if_neg (fun e' => e ((nI0_iff (by omega)).mp e'))]
    have e9 : (9 : Int32).toInt = 9 := rfl
    have s1 := pk_sub_toInt (a := mxh D X (nS D)) (b := mnh D X (nS D)) (by omega) (by omega)
    have s2 := pk_sub_toInt (a := mxh D X (nS D)) (b := high) (by omega) (by omega)
    have s3 := pk_sub_toInt (a := high) (b := mnh D X (nS D)) (by omega) (by omega)
    simp only []
    by_cases c1 : 9 < nI (mxh D X (nS D)) - nI (mnh D X (nS D))
    · rw [if_pos c1]
      rw [i_lt, s1, e9] at c1
      exact Or.inr ⟨fun h => by rcases h with h | h <;> omega, rfl⟩
    · rw [if_neg c1]
      rw [i_lt, s1, e9] at c1
      by_cases c2 : 9 < nI (mxh D X (nS D)) - nI high
      · rw [if_pos c2]
        rw [i_lt, s2, e9] at c2
        exact Or.inr ⟨fun h => by rcases h with h | h <;> omega, rfl⟩
      · rw [if_neg c2]
        rw [i_lt, s2, e9] at c2
        by_cases c3 : 9 < nI high - nI (mnh D X (nS D))
        · rw [if_pos c3]
          rw [i_lt, s3, e9] at c3
          exact Or.inr ⟨fun h => by rcases h with h | h <;> omega, rfl⟩
        · rw [if_neg c3]
          rw [i_lt, s3, e9] at c3
          exact Or.inl ⟨Or.inr ⟨by omega, by omega, by omega⟩, rfl⟩
theorem hand_m (hD : WD D) (h89 : J 89 = D) {high : Nat} (hh : high ≤ 99) : ∀ f k G, 1 ≤ k → k ≤ 2 ^ nS D → 2 ^ nS D - k < f → G < k → (G = 0 ∨ isH D (nS D) G high) → (∀ X, 1 ≤ X → X < k → isH D (nS D) X high → pc X < pc G ∨ (pc X = pc G ∧ G ≤ X)) → ∃ G', L_Model_hand_22 (nI high) J f (nI G) (nI k) = some (nI G') ∧ G' < 2 ^ nS D ∧ (G' = 0 ∨ isH D (nS D) G' high) ∧ (∀ X, 1 ≤ X → X < 2 ^ nS D → isH D (nS D) X high → pc X < pc G' ∨ (pc X = pc G' ∧ G' ≤ X)) := by
  have n8 := hD.1.2
  have h256 := lt_p2 (nS D) (by omega)
  have hpos := Nat.two_pow_pos (nS D)
  intro f
  induction f with
  | zero => intro k G _ _ h; omega
  | succ f ih =>
    intro k G hk1 hk hf hG hG1 hG2
    rw [L_Model_hand_22, all_m hD h89]
    by_cases e : 2 ^ nS D ≤ k
    · rw [if_pos (nI_lt (by omega) (by omega))]
      exact ⟨G, rfl, by omega, hG1, fun X x1 x2 x3 => hG2 X x1 (by omega) x3⟩
    · rw [if_neg (nI_nlt (by omega) (by omega)), nI_1, ones_m (show k < 256 by omega), ones_m (show G < 256 by omega), Option.bind_some, Option.bind_some]
      have pk := pc_le k (by omega)
      have pg := pc_le G (by omega)
      rcases isH_m hD h89 (X := k) (by omega) hh with ⟨p1, p2⟩ | ⟨p1, p2⟩
      · rw [p2, Option.bind_some, if_neg one0]
        by_cases c : pc k ≤ pc G
        · rw [if_pos (nI_le c (by omega))]
          refine ih (k + 1) G (by omega) (by omega) (by omega) (by omega) hG1 (fun X x1 x2 x3 => ?_)
          by_cases ex : X = k
          · subst ex; omega
          · exact hG2 X x1 (by omega) x3
        · rw [if_neg (nI_ge (by omega) (by omega))]
          refine ih (k + 1) k (by omega) (by omega) (by omega) (by omega) (Or.inr p1) (fun X x1 x2 x3 => ?_)
          by_cases ex : X = k
          · subst ex; exact Or.inr ⟨rfl, Nat.le_refl _⟩
          · have := hG2 X x1 (by omega) x3
            omega
      · rw [p2, Option.bind_some, if_pos rfl]
        refine ih (k + 1) G (by omega) (by omega) (by omega) (by omega) hG1 (fun X x1 x2 x3 => ?_)
        by_cases ex : X = k
        · subst ex; exact absurd x3 p1
        · exact hG2 X x1 (by omega) x3
theorem ok_hand (h : Rel B L xs C I) (x : Int32) : OK1 B L xs C (M_H_hand C I x) (fun J => M_Model_hand J x) := by
  have n8 := h.n8
  have h256 := lt_p2 (nS (I 89)) (by omega)
  have hpos := Nat.two_pow_pos (nS (I 89))
  unfold M_H_hand M_Model_hand
  simp only [bsome, in_nat x (a := 0) (b := 99) (by decide) (by decide), within_eq]
  by_cases hx : ((0 : Nat) : Int) ≤ x.toInt ∧ x.toInt ≤ ((99 : Nat) : Int)
  · have hx' : 0 ≤ x.toInt ∧ x.toInt ≤ (99 : Int32).toInt := hx
    simp only [if_pos hx, if_pos hx', if_neg one0]
    obtain ⟨high, hh, rfl⟩ : ∃ a : Nat, (a ≤ 99) ∧ x = nI a := ⟨x.toInt.toNat, by omega, i_nI (by omega)⟩
    obtain ⟨F, f1, f2, f3, f4⟩ := hand_c h hh 1000 0 0 (by omega) (by omega) hpos (Or.inl rfl) (fun e he => by omega)
    obtain ⟨G, g1, g2, g3, g4⟩ := hand_m h.2.1 (J := I) rfl hh 1000 1 0 (by omega) (by omega) (by omega) (by omega) (Or.inl rfl) (fun X x1 x2 => by omega)
    have e := hand_uni n8 (fun j hj => (hn_eq (h.2.1.2.2.2.2.1 j hj)).2) f2 g2 f3 f4 g3 g4
    subst e
    refine ok_same h (v := nI F) ?_ ?_
    · rw [show L_H_hand_22 C (nI high) I 1000 0 (nI high - 9) = some (nI F) from by
        have : nI high - 9 = nI high - 9 + nI 0 := (Int32.add_zero _).symm
        rw [this]; exact f1]; rfl
    · show Option.bind (L_Model_hand_22 (nI high) I 1000 0 1) _ = _
      rw [show L_Model_hand_22 (nI high) I 1000 0 1 = some (nI F) from g1]; rfl
  · have hx' : ¬ (0 ≤ x.toInt ∧ x.toInt ≤ (99 : Int32).toInt) := hx
    simp only [if_neg hx, if_neg hx', if_pos rfl]
    exact err_ok0 1 (by decide) (by decide) h rfl rfl
end RHN
