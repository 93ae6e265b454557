/-! a loop that looks for the first place -/
theorem srch {ρ : Type} (F : Nat → Nat → Option ρ) (n : Nat) (P : Nat → Prop) (a : Nat → ρ) (b : ρ) (hs : ∀ f i, i < n → ¬ P i → F (f + 1) i = F f (i + 1)) (hx : ∀ f i, i < n → P i → F (f + 1) i = some (a i)) (he : ∀ f, F (f + 1) n = some b) : ∀ f i, i ≤ n → n - i < f → (∃ j, i ≤ j ∧ j < n ∧ P j ∧ (∀ k, i ≤ k → k < j → ¬ P k) ∧ F f i = some (a j)) ∨ ((∀ j, i ≤ j → j < n → ¬ P j) ∧ F f i = some b) := by
  intro f
  induction f with
  | zero => intro i _ h; omega
  | succ f ih =>
    intro i hi hf
    rcases Nat.lt_or_ge i n with h | h
    · by_cases hp : P i
      · exact Or.inl ⟨i, Nat.le_refl _, h, hp, fun k h1 h2 => by omega, hx f i h hp⟩
      · rw [hs f i h hp]
        rcases ih (i + 1) h (by omega) with ⟨j, j1, j2, j3, j4, j5⟩ | ⟨j1, j2⟩
        · exact Or.inl ⟨j, by omega, j2, j3, fun k k1 k2 => by
            by_cases e : k = i
            · subst e; exact hp
            · exact j4 k (by omega) k2, j5⟩
        · exact Or.inr ⟨fun j k1 k2 => by
            by_cases e : j = i
            · subst e; exact hp
            · exact j1 j (by omega) k2, j2⟩
    · obtain rfl : i = n := by omega
      exact Or.inr ⟨fun j h1 h2 => by omega, he f⟩
theorem mmax_nI {a b : Nat} (ha : a < 2 ^ 31) (hb : b < 2 ^ 31) : mmax (nI a) (nI b) = nI (max a b) := by
  unfold mmax
  by_cases h : a < b
  · rw [if_pos (nI_lt h hb), Nat.max_eq_right (by omega)]
  · rw [if_neg (nI_nlt (by omega) ha), Nat.max_eq_left (by omega)]
section RJ
variable {B L : Nat} {xs : Nat → Int32} {C : HC} {I J K : HI} {D : Nat → Int32}
/-- a look's two strokes in the class's rows -/
theorem lk_c (h : Rel B L xs C I) (hJ : ∀ c, c ∉ SCR → J c = I c) {l : Nat} (hl : l < nL (I 89)) : J 11 l = nI (uL (I 89) l) ∧ J 12 l = nI (lL (I 89) l) ∧ uL (I 89) l < nS (I 89) ∧ lL (I 89) l < nS (I 89) ∧ uL (I 89) l ≠ lL (I 89) l := by
  obtain ⟨z1, z2, z3, z4, z5, z6⟩ := h.za
  obtain ⟨g1, g2, g3, g4, g5⟩ := uL_eq h.2.1 hl
  obtain ⟨-, y1, y2, y3⟩ := z2.2.1 l hl
  exact ⟨by rw [hJ 11 (by decide)]; exact y1.trans g1, by rw [hJ 12 (by decide)]; exact y2.trans g2, g3, g4, g5⟩
theorem sh_scr {s : Nat} (hs : s < 4) : 80 + s ∉ SCR := by
  rcases (show s = 0 ∨ s = 1 ∨ s = 2 ∨ s = 3 by omega) with rfl | rfl | rfl | rfl <;> decide
/-- looks whose later stroke is i -/
def jP (D y : Nat → Int32) (i l : Nat) : Prop := max (uL D l) (lL D l) = i ∧ ¬ y (lL D l) < y (uL D l)
def jQ (D y : Nat → Int32) (i l : Nat) : Prop := (uL D l ≤ i ∧ lL D l ≤ i) ∧ ¬ y (lL D l) < y (uL D l)
theorem holds_c (h : Rel B L xs C I) (hJ : ∀ c, c ∉ SCR → J c = I c) {s i : Nat} (hs : s < 4) (hi : i < 8) : ((∃ l, l < nL (I 89) ∧ jP (I 89) (I (80 + s)) i l) ∧ M_Wall_holdsUpTo J (nI i) (80 + s) = some 0) ∨ ((∀ l, l < nL (I 89) → ¬ jP (I 89) (I (80 + s)) i l) ∧ M_Wall_holdsUpTo J (nI i) (80 + s) = some 1) := by
  have l12 := h.2.1.2.1.2
  have n8 := h.n8
  have hl := lk_nI h
  rw [← hJ 1 (by decide)] at hl
  have key := srch (fun f l => L_Wall_holdsUpTo_2 (nI i) (80 + s) J f (nI l)) (nL (I 89)) (jP (I 89) (I (80 + s)) i) (fun _ => 0) 1 ?_ ?_ ?_ 1000 0 (by omega) (by omega)
  · unfold M_Wall_holdsUpTo
    rcases key with ⟨j, j1, j2, j3, j4, j5⟩ | ⟨j1, j2⟩
    · refine Or.inl ⟨⟨j, j2, j3⟩, ?_⟩
      rw [show L_Wall_holdsUpTo_2 (nI i) (80 + s) J 1000 0 = some 0 from j5, Option.bind_some, if_pos rfl]
    · refine Or.inr ⟨fun l hl => j1 l (by omega) hl, ?_⟩
      rw [show L_Wall_holdsUpTo_2 (nI i) (80 + s) J 1000 0 = some 1 from j2, Option.bind_some, if_neg (by decide)]
  · intro f l hlt hp
    obtain ⟨a1, a2, a3, a4, a5⟩ := lk_c h hJ hlt
    show L_Wall_holdsUpTo_2 (nI i) (80 + s) J (f + 1) (nI l) = _
    rw [L_Wall_holdsUpTo_2, hl, if_neg (nI_ge hlt (by omega)), grd_t (bnd_nI (by omega) (by omega)), nI_clamp (by omega), a1, a2, mmax_nI (by omega) (by omega), nI_1]
    by_cases e : max (uL (I 89) l) (lL (I 89) l) = i
    · rw [if_pos (by rw [e]), grd_t (bnd_nI (by omega) (by omega)), grd_t (bnd_nI (by omega) (by omega)), nI_clamp (by omega), nI_clamp (by omega), hJ _ (sh_scr hs), if_pos (Classical.byContradiction fun hn => hp ⟨e, hn⟩)]
    · rw [if_neg (fun e' => e ((nI_eq (by omega) (by omega)).mp e'))]
  · intro f l hlt hp
    obtain ⟨a1, a2, a3, a4, a5⟩ := lk_c h hJ hlt
    show L_Wall_holdsUpTo_2 (nI i) (80 + s) J (f + 1) (nI l) = _
    rw [L_Wall_holdsUpTo_2, hl, if_neg (nI_ge hlt (by omega)), grd_t (bnd_nI (by omega) (by omega)), nI_clamp (by omega), a1, a2, mmax_nI (by omega) (by omega), if_pos (by rw [hp.1]), grd_t (bnd_nI (by omega) (by omega)), grd_t (bnd_nI (by omega) (by omega)), nI_clamp (by omega), nI_clamp (by omega), hJ _ (sh_scr hs), if_neg hp.2]
  · intro f
    show L_Wall_holdsUpTo_2 (nI i) (80 + s) J (f + 1) (nI (nL (I 89))) = _
    rw [L_Wall_holdsUpTo_2, hl, if_pos (nI_le (Nat.le_refl _) (by omega))]
theorem right_m (h : Rel B L xs C I) (h89 : J 89 = I 89) (h105 : J 105 = I 105) {s i : Nat} (hs : s < 4) (hi : i < 8) : ((∃ l, l < nL (I 89) ∧ jQ (I 89) (I (80 + s)) i l) ∧ L_Model_isRight_37 (nI i) (nI (40 * s)) J 1000 0 = some 0) ∨ ((∀ l, l < nL (I 89) → ¬ jQ (I 89) (I (80 + s)) i l) ∧ L_Model_isRight_37 (nI i) (nI (40 * s)) J 1000 0 = some 1) := by
  have l12 := h.2.1.2.1.2
  have n8 := h.n8
  have hl : J 89 1 = nI (nL (I 89)) := by rw [h89]; exact mL_nI h
  have hsh : SH I := h.2.2.2.2.2.2.2.1
  obtain ⟨-, -, -, -, a5⟩ := hsh s hs
  have key := srch (fun f l => L_Model_isRight_37 (nI i) (nI (40 * s)) J f (nI l)) (nL (I 89)) (jQ (I 89) (I (80 + s)) i) (fun _ => 0) 1 ?_ ?_ ?_ 1000 0 (by omega) (by omega)
  · rcases key with ⟨j, j1, j2, j3, j4, j5⟩ | ⟨j1, j2⟩
    · exact Or.inl ⟨⟨j, j2, j3⟩, j5⟩
    · exact Or.inr ⟨fun l hl => j1 l (by omega) hl, j2⟩
  · intro f l hlt hp
    obtain ⟨g1, g2, g3, g4, g5⟩ := uL_eq h.2.1 hlt
    show L_Model_isRight_37 (nI i) (nI (40 * s)) J (f + 1) (nI l) = _
    rw [L_Model_isRight_37, hl, if_neg (nI_ge hlt (by omega)), upper_m (by omega), lower_m (by omega), Option.bind_some, Option.bind_some, h89, g1, g2, nI_1]
    by_cases e1 : uL (I 89) l ≤ i
    · rw [if_neg (nI_nlt e1 (by omega))]
      by_cases e2 : lL (I 89) l ≤ i
      · rw [if_neg (nI_nlt e2 (by omega)), Option.bind_some, Option.bind_some, nI_add, nI_add, grd_t (bnd_nI (by omega) (by omega)), grd_t (bnd_nI (by omega) (by omega)), nI_clamp (by omega), nI_clamp (by omega), h105, ← a5 _ (by omega), ← a5 _ (by omega), if_pos (Classical.byContradiction fun hn => hp ⟨⟨e1, e2⟩, hn⟩)]
      · rw [if_pos (nI_lt (by omega) (by omega))]
    · rw [if_pos (nI_lt (by omega) (by omega))]
  · intro f l hlt hp
    obtain ⟨g1, g2, g3, g4, g5⟩ := uL_eq h.2.1 hlt
    obtain ⟨⟨e1, e2⟩, e3⟩ := hp
    show L_Model_isRight_37 (nI i) (nI (40 * s)) J (f + 1) (nI l) = _
    rw [L_Model_isRight_37, hl, if_neg (nI_ge hlt (by omega)), upper_m (by omega), lower_m (by omega), Option.bind_some, Option.bind_some, h89, g1, g2, if_neg (nI_nlt e1 (by omega)), if_neg (nI_nlt e2 (by omega)), Option.bind_some, Option.bind_some, nI_add, nI_add, grd_t (bnd_nI (by omega) (by omega)), grd_t (bnd_nI (by omega) (by omega)), nI_clamp (by omega), nI_clamp (by omega), h105, ← a5 _ (by omega), ← a5 _ (by omega), if_neg e3]
  · intro f
    show L_Model_isRight_37 (nI i) (nI (40 * s)) J (f + 1) (nI (nL (I 89))) = _
    rw [L_Model_isRight_37, hl, if_pos (nI_le (Nat.le_refl _) (by omega))]
theorem judge_sim (h : Rel B L xs C I) {s m : Nat} (hs : s < 4) (hm : m ≤ 40) (h85 : I 85 s = nI m) : ∀ f i (Jc Jm : HI), (∀ c, c ∉ SCR → Jc c = I c) → (∀ c, c ∉ SCR → Jm c = I c) → i ≤ nS (I 89) → nS (I 89) - i < f → (∀ l, l < nL (I 89) → max (uL (I 89) l) (lL (I 89) l) < i → I (80 + s) (lL (I 89) l) < I (80 + s) (uL (I 89) l)) → ∃ t r Kc Km, L_H_judge_37 C (nI s) (80 + s) f (nI i) Jc = some (t, nI r, Kc) ∧ L_Model_judge_18 (nI s) f (nI i) Jm = some (nI r, Km) ∧ (t ≠ 0 → r = nS (I 89)) ∧ fr [19, 24] Jc Kc ∧ fr [88, 92] Jm Km ∧ fk [4, 5, 6, 7, 8, 9] Jm Km := by
  have n8 := h.n8
  have hsh : SH I := h.2.2.2.2.2.2.2.1
  obtain ⟨-, b2, -, -, a5⟩ := hsh s hs
  intro f
  induction f with
  | zero => intro i Jc Jm _ _ _ h; omega
  | succ f ih =>
    intro i Jc Jm hc hm' hi hf hinv
    have hcn : Jc 1 1 = nI (nS (I 89)) := by rw [hc 1 (by decide)]; exact st_nI h
    have h89 := hm' 89 (by decide)
    have hmn : Jm 89 0 = nI (nS (I 89)) := by rw [h89]; exact mS_nI h
    unfold L_H_judge_37 L_Model_judge_18
    rw [hcn, hmn]
    by_cases e : i = nS (I 89)
    · have hq : nI (nS (I 89)) ≤ nI i := nI_le (by omega) (by omega)
      rw [if_pos hq, if_pos hq]
      exact ⟨1, i, Jc, Jm, rfl, rfl, fun _ => e, fr.refl, fr.refl, fk.refl⟩
    · have hlt : i < nS (I 89) := by omega
      have hq : ¬ nI (nS (I 89)) ≤ nI i := nI_ge hlt (by omega)
      rw [if_neg hq, if_neg hq, grd_t (bnd_nI hs (by omega)), grd_t (bnd_nI hs (by omega)), nI_clamp (by omega), hc 85 (by decide), hm' 104 (by decide), ← b2, h85]
      by_cases em : m ≤ i
      · have hq2 : nI m ≤ nI i := nI_le em (by omega)
        rw [if_pos hq2, if_pos hq2]
        exact ⟨0, i, Jc, Jm, rfl, rfl, fun e => absurd rfl e, fr.refl, fr.refl, fk.refl⟩
      · have hq2 : ¬ nI m ≤ nI i := nI_ge (by omega) (by omega)
        rw [if_neg hq2, if_neg hq2, grd_t (bnd_nI (show i < 40 by omega) (by omega)), nI_clamp (show i < 2 ^ 31 by omega)]
        -- years
        obtain ⟨J1, j1, f1⟩ := early_c h hc hlt
        have hc1 : ∀ c, c ∉ SCR → J1 c = I c := fun c hn => by rw [f1 c (fun hm => hn (by revert hm; simp [SCR]; omega)), hc c hn]
        obtain ⟨J2, j2, f2⟩ := late_c h hc1 hlt
        have hc2 : ∀ c, c ∉ SCR → J2 c = I c := fun c hn => by rw [f2 c (fun hm => hn (by revert hm; simp [SCR]; omega)), hc1 c hn]
        obtain ⟨M1, m1⟩ := early_m (I := Jm) (s := i) (by rw [h89]; exact h.2.1) (by rw [h89]; exact hlt)
        have w1 : fr [88, 92] Jm M1 := w_Model_earlyOf m1
        have v1 : fk [4, 5, 6, 7, 8, 9] Jm M1 := v_Model_earlyOf m1
        have hM1 : ∀ c, c ∉ SCR → M1 c = I c := fun c hn => by rw [w1 c (fun hm => hn (by revert hm; simp [SCR]; omega)), hm' c hn]
        obtain ⟨M2, m2⟩ := late_m (I := M1) (s := i) (by rw [hM1 89 (by decide)]; exact h.2.1) (by rw [hM1 89 (by decide)]; exact hlt)
        have w2 : fr [88, 92] M1 M2 := w_Model_lateOf m2
        have v2 : fk [4, 5, 6, 7, 8, 9] M1 M2 := v_Model_lateOf m2
        have hM2 : ∀ c, c ∉ SCR → M2 c = I c := fun c hn => by rw [w2 c (fun hm => hn (by revert hm; simp [SCR]; omega)), hM1 c hn]
        rw [h89] at m1
        rw [hM1 89 (by decide)] at m2
        have fc := fr.trans f1 f2
        have fm := fr.trans w1 w2
        have vm := fk.trans v1 v2
        unfold M_Model_isRight
        rw [show (40 : Int32) * nI s = nI (40 * s) from pk_mul 40 s, nI_add, grd_t (bnd_nI (show 40 * s + i < 160 by omega) (by omega)), nI_clamp (show 40 * s + i < 2 ^ 31 by omega), m1, j1, Option.bind_some, Option.bind_some]
        simp only []
        rw [m2, Option.bind_some, hc _ (sh_scr hs), hm' 105 (by decide), ← a5 i (by omega)]
        simp only []
        rw [in_eq, Int32.toInt_toInt64, Int32.toInt_toInt64]
        by_cases c1 : I (80 + s) i < eY (I 89) i
        · have q : ¬ ((eY (I 89) i).toInt ≤ (I (80 + s) i).toInt ∧ (I (80 + s) i).toInt ≤ (lY (I 89) i).toInt) := by rw [i_lt] at c1; omega
          rw [if_pos c1, if_neg q, if_pos rfl, Option.bind_some]
          exact ⟨0, i, J1, M2, rfl, if_pos rfl, fun e => absurd rfl e, f1, fm, vm⟩
        · rw [if_neg c1, j2, Option.bind_some]
          simp only []
          rw [hc1 _ (sh_scr hs)]
          by_cases c2 : lY (I 89) i < I (80 + s) i
          · have q : ¬ ((eY (I 89) i).toInt ≤ (I (80 + s) i).toInt ∧ (I (80 + s) i).toInt ≤ (lY (I 89) i).toInt) := by rw [i_lt] at c2; omega
            rw [if_pos c2, if_neg q, if_pos rfl, Option.bind_some]
            exact ⟨0, i, J2, M2, rfl, if_pos rfl, fun e => absurd rfl e, fc, fm, vm⟩
          · have q : (eY (I 89) i).toInt ≤ (I (80 + s) i).toInt ∧ (I (80 + s) i).toInt ≤ (lY (I 89) i).toInt := by rw [i_lt] at c1 c2; omega
            rw [if_neg c2, if_pos q, if_neg one0]
            have hPQ : (∃ l, l < nL (I 89) ∧ jQ (I 89) (I (80 + s)) i l) → ∃ l, l < nL (I 89) ∧ jP (I 89) (I (80 + s)) i l := by
              rintro ⟨l, l1, ⟨l2, l3⟩, l4⟩
              by_cases e : max (uL (I 89) l) (lL (I 89) l) = i
              · exact ⟨l, l1, e, l4⟩
              · exact absurd (hinv l l1 (by omega)) l4
            have hQP : (∃ l, l < nL (I 89) ∧ jP (I 89) (I (80 + s)) i l) → ∃ l, l < nL (I 89) ∧ jQ (I 89) (I (80 + s)) i l := by
              rintro ⟨l, l1, l2, l4⟩
              exact ⟨l, l1, ⟨by omega, by omega⟩, l4⟩
            rcases holds_c h hc2 hs (show i < 8 by omega) with ⟨p1, p2⟩ | ⟨p1, p2⟩
            · rw [p2, Option.bind_some, if_pos rfl]
              rcases right_m h (J := M2) (hM2 89 (by decide)) (hM2 105 (by decide)) hs (show i < 8 by omega) with ⟨q1, q2⟩ | ⟨q1, q2⟩
              · rw [q2, Option.bind_some, if_pos (show (0 : Nat) = 0 from rfl), Option.bind_some]
                exact ⟨0, i, J2, M2, rfl, if_pos rfl, fun e => absurd rfl e, fc, fm, vm⟩
              · obtain ⟨l, l1, l2⟩ := hQP p1
                exact absurd l2 (q1 l l1)
            · rw [p2, Option.bind_some, if_neg one0]
              rcases right_m h (J := M2) (hM2 89 (by decide)) (hM2 105 (by decide)) hs (show i < 8 by omega) with ⟨q1, q2⟩ | ⟨q1, q2⟩
              · obtain ⟨l, l1, l2⟩ := hPQ q1
                exact absurd l2 (p1 l l1)
              · rw [q2, Option.bind_some, if_neg (show ¬ (1 : Nat) = 0 by decide), Option.bind_some]
                simp only []
                rw [if_neg one0, nI_1]
                obtain ⟨t, r, Kc, Km, k1, k2, k3, k4, k5, k6⟩ := ih (i + 1) J2 M2 hc2 hM2 (by omega) (by omega) (fun l l1 l2 => by
                  by_cases e : max (uL (I 89) l) (lL (I 89) l) = i
                  · exact Classical.byContradiction fun hn => p1 l l1 ⟨e, hn⟩
                  · exact hinv l l1 (by omega))
                exact ⟨t, r, Kc, Km, k1, k2, k3, fr.trans fc k4, fr.trans fm k5, fk.trans vm k6⟩
theorem ok_judge (h : Rel B L xs C I) (x : Int32) : OK1 B L xs C (M_H_judge C I x) (fun J => M_Model_judge J x) := by
  have hsh : SH I := h.2.2.2.2.2.2.2.1
  have n8 := h.n8
  unfold M_H_judge M_Model_judge M_Model_whyNot
  simp only [bsome]
  rcases ix_case x 4 (by omega) with ⟨s, hs, rfl⟩ | hx
  · simp only [(sht_y hs).1, (sht_y hs).2, if_neg one0, grd_t (bnd_nI hs (by omega)), nI_clamp (show s < 2 ^ 31 by omega)]
    obtain ⟨a1, a2, a3, ⟨m, a4, a4'⟩, a5⟩ := hsh s hs
    by_cases h0 : I 84 s = 0
    · rw [if_pos h0]
      refine err_ok0 2 (by decide) (by decide) h rfl ?_
      show (Option.bind (if xu I 87 2 _ 103 s = 0 then _ else _) _) = _
      rw [xu_qn (by decide), ← a1, if_pos h0]; rfl
    · rw [if_neg h0]
      obtain ⟨t, r, Kc, Km, k1, -, k3, k4, -, -⟩ := judge_sim h hs a4 a4' 1000 0 I I (fun _ _ => rfl) (fun _ _ => rfl) (by omega) (by omega) (fun l _ hl => by omega)
      have hK : ∀ c, c ∉ SCR → Kc c = I c := fun c hn => k4 c (fun hm => hn (by revert hm; simp [SCR]; omega))
      obtain ⟨t', r', Kc', Km', l1, l2, l3, l4, l5, l6⟩ := judge_sim h hs a4 a4' 1000 0 I Kc (fun _ _ => rfl) hK (by omega) (by omega) (fun l _ hl => by omega)
      rw [k1] at l1
      have e := Option.some.inj l1
      have e0 : t = t' := congrArg (fun p => p.1) e
      have e1 : nI r = nI r' := congrArg (fun p => p.2.1) e
      have e2 : Kc = Kc' := congrArg (fun p => p.2.2) e
      subst e0
      subst e2
      rw [← e1] at l2
      refine ok_val h (v := nI r) (J := Kc) (K := Km') (W := [19, 24]) (W' := [88, 92]) ?_ k4 (by decide) (by decide) ?_ l5 (by decide) (l6 2 (by decide)) (l6 21 (by decide))
      · rw [show (0 : Int32) = nI 0 from rfl, k1, Option.bind_some]
        simp only []
        by_cases et : t = 0
        · rw [if_pos et]
        · rw [if_neg et, k3 et, hK 1 (by decide), st_nI h]
      · show (Option.bind (if Kc 103 s = 0 then _ else _) _) = _
        rw [hK 103 (by decide), ← a1, if_neg h0, Option.bind_some, if_pos rfl]
        exact l2
  · simp only [(sht_n hx).1, (sht_n hx).2, if_pos rfl]
    exact err_ok0 1 (by decide) (by decide) h rfl rfl
end RJ
