section SM
variable {B L : Nat} {xs : Nat → Int32} {C : HC} {I J K : HI} {D : Nat → Int32} {E Z X : Nat → Int}
/-! the reference: both at once -/
theorem pm18 (hD : WD D) {x2 : Int32} (hX : ∀ s, s < nS D → -20000 ≤ X s ∧ X s ≤ 20000) (hZ : ∀ s, s < nS D → -20000 ≤ Z s ∧ Z s ≤ 20000) : ∀ f l (J : HI), l ≤ nL D → nL D - l < f → J 89 = D → (∀ s, s < nS D → (J 98 s).toInt = rnd (uL D) (lL D) l X s) → (∀ s, s < nS D → -(J 99 s).toInt = rnd (lL D) (uL D) l Z s) → ∃ K, L_Model_pushes_18 x2 f (if (mvd (uL D) (lL D) l X || mvd (lL D) (uL D) l Z) = true then 1 else 0) (nI l) J = some ((if (mvd (uL D) (lL D) (nL D) X || mvd (lL D) (uL D) (nL D) Z) = true then 1 else 0), K) ∧ (∀ c, c ≠ 98 → c ≠ 99 → K c = J c) ∧ (∀ s, s < nS D → (K 98 s).toInt = rnd (uL D) (lL D) (nL D) X s) ∧ (∀ s, s < nS D → -(K 99 s).toInt = rnd (lL D) (uL D) (nL D) Z s) := by
  have n8 := hD.1.2
  have l12 := hD.2.1.2
  intro f
  induction f with
  | zero => intro l J _ h; omega
  | succ f ih =>
    intro l J hl hf h89 hR hS
    rw [L_Model_pushes_18, h89, hD.2.1.1]
    by_cases e : nL D ≤ l
    · rw [if_pos (nI_le e (by omega))]
      obtain rfl : l = nL D := by omega
      exact ⟨J, rfl, fun _ _ _ => rfl, hR, hS⟩
    · obtain ⟨g1, g2, g3, g4, g5⟩ := uL_eq hD (l := l) (by omega)
      have b1 := bd_rnd (b := 20000) (hbU hD) hX l (by omega)
      have b2 := bd_rnd (b := 20000) (hbL hD) hZ l (by omega)
      have ex : (J 98 (lL D l) + 1).toInt = rnd (uL D) (lL D) l X (lL D l) + 1 := by
        have := b1 _ g4
        rw [i_add (by rw [hR _ g4, show (1 : Int32).toInt = 1 from rfl]; omega), hR _ g4]; rfl
      have ez : (J 99 (uL D l) - 1).toInt = -(rnd (lL D) (uL D) l Z (uL D l) + 1) := by
        have a1 := b2 _ g3
        have a2 := hS _ g3
        rw [i_sub (by rw [show (1 : Int32).toInt = 1 from rfl]; omega), show (1 : Int32).toInt = 1 from rfl]; omega
      have hrs := rnd_s (hi := uL D) (lo := lL D) (X := X) l
      have hms := mvd_s (hi := uL D) (lo := lL D) (X := X) l
      have hrz := rnd_s (hi := lL D) (lo := uL D) (X := Z) l
      have hmz := mvd_s (hi := lL D) (lo := uL D) (X := Z) l
      unfold stp at hrs hrz
      have hu : ∀ J' : HI, J' 89 = D → M_Model_upper J' (nI l) = some (nI (uL D l)) := fun J' h' => by rw [upper_m (by omega), h', g1]
      have hlw : ∀ J' : HI, J' 89 = D → M_Model_lower J' (nI l) = some (nI (lL D l)) := fun J' h' => by rw [lower_m (by omega), h', g2]
      have gu : grd (bnd (nI (uL D l)) 8) = (fun x : Option (Int32 × HI) => x) := by funext x; exact grd_t (bnd_nI (by omega) (by omega))
      have gl : grd (bnd (nI (lL D l)) 8) = (fun x : Option (Int32 × HI) => x) := by funext x; exact grd_t (bnd_nI (by omega) (by omega))
      -- what comes behind the early years
      have tail : ∀ (fl : Int32) (b : Bool) (J' : HI), fl = (if b = true then 1 else 0) → b = (mvd (uL D) (lL D) (l + 1) X || mvd (lL D) (uL D) l Z) → J' 89 = D → J' 99 = J 99 → (∀ c, c ≠ 98 → J' c = J c) → (∀ s, s < nS D → (J' 98 s).toInt = rnd (uL D) (lL D) (l + 1) X s) → ∃ K, (if J' 99 (lL D l) < J' 99 (uL D l) then L_Model_pushes_18 x2 f fl (nI (l + 1)) J' else L_Model_pushes_18 x2 f 1 (nI (l + 1)) (xu J' 99 (lL D l) (J' 99 (uL D l) - 1))) = some ((if (mvd (uL D) (lL D) (nL D) X || mvd (lL D) (uL D) (nL D) Z) = true then 1 else 0), K) ∧ (∀ c, c ≠ 98 → c ≠ 99 → K c = J c) ∧ (∀ s, s < nS D → (K 98 s).toInt = rnd (uL D) (lL D) (nL D) X s) ∧ (∀ s, s < nS D → -(K 99 s).toInt = rnd (lL D) (uL D) (nL D) Z s) := by
        intro fl b J' hfl hb h89' h99 hc' hR'
        rw [h99]
        have w1 := hS _ g4
        have w2 := hS _ g3
        by_cases c : J 99 (lL D l) < J 99 (uL D l)
        · rw [if_pos c]
          rw [i_lt] at c
          have c' : rnd (lL D) (uL D) l Z (uL D l) + 1 ≤ rnd (lL D) (uL D) l Z (lL D l) := by omega
          rw [if_pos c'] at hrz
          have hm2 : mvd (lL D) (uL D) (l + 1) Z = mvd (lL D) (uL D) l Z := by rw [hmz]; simp [c']
          rw [hfl, hb, ← hm2]
          obtain ⟨K, k1, k2, k3, k4⟩ := ih (l + 1) J' (by omega) (by omega) h89' hR' (by rw [hrz, h99]; exact hS)
          exact ⟨K, k1, fun c c1 c2 => by rw [k2 c c1 c2, hc' c c1], k3, k4⟩
        · rw [if_neg c]
          rw [i_lt] at c
          have c' : ¬ rnd (lL D) (uL D) l Z (uL D l) + 1 ≤ rnd (lL D) (uL D) l Z (lL D l) := by omega
          rw [if_neg c'] at hrz
          have hm2 : mvd (lL D) (uL D) (l + 1) Z = true := by rw [hmz]; simp [c']
          obtain ⟨K, k1, k2, k3, k4⟩ := ih (l + 1) (xu J' 99 (lL D l) (J 99 (uL D l) - 1)) (by omega) (by omega) (by rw [xu_ne (by decide)]; exact h89') (fun s hs => by rw [xu_ne (by decide)]; exact hR' s hs) (fun s hs => by
            rw [hrz]
            by_cases es : s = lL D l
            · rw [es, xu_rr, ui_s, ez]; omega
            · rw [xu_rn es, ui_n es, h99]; exact hS s hs)
          rw [hm2, Bool.or_true, if_pos rfl] at k1
          exact ⟨K, k1, fun c c1 c2 => by rw [k2 c c1 c2, xu_ne c2, hc' c c1], k3, k4⟩
      rw [if_neg (nI_ge (by omega) (by omega))]
      simp only [hu J h89, hlw J h89, Option.bind_some, gu, gl, nI_clamp (show lL D l < 2 ^ 31 by omega), nI_clamp (show uL D l < 2 ^ 31 by omega), nI_1, lt_def]
      by_cases c : J 98 (lL D l) < J 98 (uL D l)
      · rw [if_pos c]
        rw [i_lt, hR _ g3, hR _ g4] at c
        have c' : rnd (uL D) (lL D) l X (lL D l) + 1 ≤ rnd (uL D) (lL D) l X (uL D l) := by omega
        rw [if_pos c'] at hrs
        have hm2 : mvd (uL D) (lL D) (l + 1) X = mvd (uL D) (lL D) l X := by rw [hms]; simp [c']
        exact tail _ _ J rfl (by rw [hm2]) h89 rfl (fun _ _ => rfl) (by rw [hrs]; exact hR)
      · rw [if_neg c]
        rw [i_lt, hR _ g3, hR _ g4] at c
        have c' : ¬ rnd (uL D) (lL D) l X (lL D l) + 1 ≤ rnd (uL D) (lL D) l X (uL D l) := by omega
        rw [if_neg c'] at hrs
        have hm2 : mvd (uL D) (lL D) (l + 1) X = true := by rw [hms]; simp [c']
        have h89' : xu J 98 (uL D l) (J 98 (lL D l) + 1) 89 = D := by rw [xu_ne (by decide)]; exact h89
        simp only [hu _ h89', hlw _ h89', Option.bind_some, gu, gl, nI_clamp (show lL D l < 2 ^ 31 by omega), nI_clamp (show uL D l < 2 ^ 31 by omega)]
        exact tail 1 true (xu J 98 (uL D l) (J 98 (lL D l) + 1)) rfl (by rw [hm2]; rfl) h89' (xu_ne (by decide)) (fun c hc => xu_ne hc) (fun s hs => by
          rw [hrs]
          by_cases es : s = uL D l
          · rw [es, xu_rr, ui_s]; exact ex
          · rw [xu_rn es, ui_n es]; exact hR s hs)
theorem pm4 (hD : WD D) (hX : ∀ s, s < nS D → -9999 ≤ X s ∧ X s ≤ 9999) (hZ : ∀ s, s < nS D → -9999 ≤ Z s ∧ Z s ≤ 9999) : ∀ f r (b : Bool) (J : HI), r ≤ 9 → 9 - r < f → J 89 = D → (∀ s, s < nS D → (J 98 s).toInt = itr (uL D) (lL D) (nL D) r X s) → (∀ s, s < nS D → -(J 99 s).toInt = itr (lL D) (uL D) (nL D) r Z s) → (b = false → stb (uL D) (lL D) (nL D) (itr (uL D) (lL D) (nL D) r X) ∧ stb (lL D) (uL D) (nL D) (itr (lL D) (uL D) (nL D) r Z)) → (b = true → r = 0 ∨ (mvd (uL D) (lL D) (nL D) (itr (uL D) (lL D) (nL D) (r - 1) X) || mvd (lL D) (uL D) (nL D) (itr (lL D) (uL D) (nL D) (r - 1) Z)) = true) → ∃ b' r' K, L_Model_pushes_4 f (if b = true then 1 else 0) (nI r) J = some ((if b' = true then 1 else 0), K) ∧ (∀ c, c ≠ 98 → c ≠ 99 → K c = J c) ∧ (∀ s, s < nS D → (K 98 s).toInt = itr (uL D) (lL D) (nL D) r' X s) ∧ (∀ s, s < nS D → -(K 99 s).toInt = itr (lL D) (uL D) (nL D) r' Z s) ∧ (b' = false → stb (uL D) (lL D) (nL D) (itr (uL D) (lL D) (nL D) r' X) ∧ stb (lL D) (uL D) (nL D) (itr (lL D) (uL D) (nL D) r' Z)) ∧ (b' = true → r' = 9 ∧ (mvd (uL D) (lL D) (nL D) (itr (uL D) (lL D) (nL D) 8 X) || mvd (lL D) (uL D) (nL D) (itr (lL D) (uL D) (nL D) 8 Z)) = true) := by
  have n8 := hD.1.2
  have l12 := hD.2.1.2
  intro f
  induction f with
  | zero => intro r b J _ h; omega
  | succ f ih =>
    intro r b J hr hf h89 hR hS hb0 hb1
    rw [L_Model_pushes_4]
    by_cases e : 9 ≤ r
    · rw [if_pos (c_lt 8 8 (by omega))]
      obtain rfl : r = 9 := by omega
      refine ⟨b, 9, J, rfl, fun _ _ _ => rfl, hR, hS, hb0, fun e => ⟨rfl, ?_⟩⟩
      rcases hb1 e with h | h
      · omega
      · exact h
    · rw [if_neg (c_nlt 8 8 (by omega))]
      cases b with
      | false =>
        rw [if_neg (show ¬ (false = true) by decide), if_pos rfl]
        exact ⟨false, r, J, rfl, fun _ _ _ => rfl, hR, hS, hb0, fun e => by cases e⟩
      | true =>
        rw [if_pos (show true = true from rfl), if_neg one0]
        have bd := bd_itr (hbU hD) l12 hX r
        have bz := bd_itr (hbL hD) l12 hZ r
        obtain ⟨K, k1, k2, k3, k4⟩ := pm18 hD (x2 := nI r) (X := itr (uL D) (lL D) (nL D) r X) (Z := itr (lL D) (uL D) (nL D) r Z) (fun s hs => by have := bd s hs; omega) (fun s hs => by have := bz s hs; omega) 1000 0 J (by omega) (by omega) h89 hR hS
        rw [show L_Model_pushes_18 (nI r) 1000 0 0 J = _ from k1, Option.bind_some, nI_1]
        obtain ⟨b', r', M, m1, m2, m3, m4, m5, m6⟩ := ih (r + 1) (mvd (uL D) (lL D) (nL D) (itr (uL D) (lL D) (nL D) r X) || mvd (lL D) (uL D) (nL D) (itr (lL D) (uL D) (nL D) r Z)) K (by omega) (by omega) (by rw [k2 89 (by decide) (by decide)]; exact h89) k3 k4 (fun e => by
          rw [Bool.or_eq_false_iff] at e
          obtain ⟨q1, q2⟩ := mvd_stb _ e.1
          obtain ⟨q3, q4⟩ := mvd_stb _ e.2
          rw [itr_s, itr_s, q1, q3]
          exact ⟨q2, q4⟩) (fun e => Or.inr e)
        exact ⟨b', r', M, m1, fun c c1 c2 => by rw [m2 c c1 c2, k2 c c1 c2], m3, m4, m5, m6⟩
theorem pm136 (hD : WD D) {x1 : Int32} (h89 : J 89 = D) : ((∃ s, s < nS D ∧ ¬ J 98 s ≤ J 99 s) ∧ L_Model_pushes_136 x1 J 1000 0 = some 0) ∨ ((∀ s, s < nS D → J 98 s ≤ J 99 s) ∧ L_Model_pushes_136 x1 J 1000 0 = some 1) := by
  have n8 := hD.1.2
  have key := srch (fun f i => L_Model_pushes_136 x1 J f (nI i)) (nS D) (fun i => ¬ J 98 i ≤ J 99 i) (fun _ => 0) 1 ?_ ?_ ?_ 1000 0 (by omega) (by omega)
  · rcases key with ⟨j, j1, j2, j3, j4, j5⟩ | ⟨j1, j2⟩
    · exact Or.inl ⟨⟨j, j2, j3⟩, j5⟩
    · exact Or.inr ⟨fun s hs => Classical.byContradiction fun hc => j1 s (by omega) hs hc, j2⟩
  · intro f i hi hp
    show L_Model_pushes_136 x1 J (f + 1) (nI i) = _
    rw [L_Model_pushes_136, h89, hD.1.1, if_neg (nI_ge hi (by omega)), grd_t (bnd_nI (by omega) (by omega)), nI_clamp (by omega), if_pos (Classical.byContradiction hp), nI_1]
  · intro f i hi hp
    show L_Model_pushes_136 x1 J (f + 1) (nI i) = _
    rw [L_Model_pushes_136, h89, hD.1.1, if_neg (nI_ge hi (by omega)), grd_t (bnd_nI (by omega) (by omega)), nI_clamp (by omega), if_neg hp]
  · intro f
    show L_Model_pushes_136 x1 J (f + 1) (nI (nS D)) = _
    rw [L_Model_pushes_136, h89, hD.1.1, if_pos (nI_le (Nat.le_refl _) (by omega))]
theorem pushes_m (hD : WD D) (h89 : J 89 = D) (hE : ∀ s, s < nS D → 0 ≤ E s ∧ E s ≤ 9999) (hZ : ∀ s, s < nS D → -9999 ≤ Z s ∧ Z s ≤ 0) (h98 : ∀ s, s < nS D → (J 98 s).toInt = E s) (h99 : ∀ s, s < nS D → -(J 99 s).toInt = Z s) : ∃ v K, M_Model_pushes J = some (v, K) ∧ (∀ c, c ≠ 98 → c ≠ 99 → K c = J c) ∧ ((okS D E Z ∧ v = 1 ∧ ∀ s, s < nS D → (K 98 s).toInt = eM D E s ∧ -(K 99 s).toInt = zM D Z s) ∨ (¬ okS D E Z ∧ v = 0)) := by
  have n8 := hD.1.2
  obtain ⟨b, r, K, k1, k2, k3, k4, k5, k6⟩ := pm4 hD (X := E) (Z := Z) (fun s hs => by have := hE s hs; omega) (fun s hs => by have := hZ s hs; omega) 1000 0 true J (by omega) (by omega) h89 h98 h99 (fun e => by cases e) (fun _ => Or.inl rfl)
  have k89 : K 89 = D := by rw [k2 89 (by decide) (by decide)]; exact h89
  unfold M_Model_pushes
  rw [show L_Model_pushes_4 1000 1 0 J = _ from k1, Option.bind_some]
  simp only []
  cases b with
  | false =>
    obtain ⟨s1, s2⟩ := k5 rfl
    have e1 := itr8 (hbU hD) (by omega) s1
    have e2 := itr8 (hbL hD) (by omega) s2
    have hr1 : ∀ s, s < nS D → (K 98 s).toInt = eM D E s := by unfold eM; rw [← e1]; exact k3
    have hr2 : ∀ s, s < nS D → -(K 99 s).toInt = zM D Z s := by unfold zM; rw [← e2]; exact k4
    have hst : stb (uL D) (lL D) (nL D) (eM D E) := by unfold eM; rw [← e1]; exact s1
    have hle : ∀ s, s < nS D → (K 98 s ≤ K 99 s ↔ eM D E s ≤ - zM D Z s) := fun s hs => by
      have := hr2 s hs
      rw [i_le, hr1 s hs]
      constructor <;> intro <;> omega
    rcases pm136 hD (J := K) (x1 := if false = true then 1 else 0) k89 with ⟨⟨s, q1, q2⟩, q3⟩ | ⟨q1, q2⟩
    · rw [q3, Option.bind_some, if_pos rfl]
      exact ⟨0, K, rfl, k2, Or.inr ⟨fun ho => q2 ((hle s q1).mpr (ho.2 s q1)), rfl⟩⟩
    · rw [q2, Option.bind_some, if_neg (show ¬ (1 : Nat) = 0 by decide), if_neg (show ¬ (false = true) by decide), if_pos rfl]
      exact ⟨1, K, rfl, k2, Or.inl ⟨⟨hst, fun s hs => (hle s hs).mp (q1 s hs)⟩, rfl, fun s hs => ⟨hr1 s hs, hr2 s hs⟩⟩⟩
  | true =>
    obtain ⟨-, hm⟩ := k6 rfl
    have hno : ¬ okS D E Z := fun ho => by
      have a1 := (stb_mvd ho.1 _ (Nat.le_refl _)).1
      have a2 := (stb_mvd (settled (X0 := Z) (hbL hD) (stb_neg ho.1) 8 (by omega)) _ (Nat.le_refl _)).1
      unfold eM at a1
      rw [a1, a2] at hm
      cases hm
    rcases pm136 hD (J := K) (x1 := if true = true then 1 else 0) k89 with ⟨-, q3⟩ | ⟨-, q2⟩
    · rw [q3, Option.bind_some, if_pos rfl]
      exact ⟨0, K, rfl, k2, Or.inr ⟨hno, rfl⟩⟩
    · rw [q2, Option.bind_some, if_neg (show ¬ (1 : Nat) = 0 by decide), if_pos (show true = true from rfl), if_neg one0]
      exact ⟨0, K, rfl, k2, Or.inr ⟨hno, rfl⟩⟩
/-! the years told -/
def eI (D : Nat → Int32) (s : Nat) : Int := (eY D s).toInt
def zI (D : Nat → Int32) (s : Nat) : Int := -(lY D s).toInt
theorem eI_rg (s : Nat) : 0 ≤ eI D s ∧ eI D s ≤ 9999 := (rg_iff (by decide)).mp (eY_rg s)
theorem zI_rg (s : Nat) : -9999 ≤ zI D s ∧ zI D s ≤ 0 := by
  have := (rg_iff (by decide)).mp (lY_rg (D := D) s)
  unfold zI
  omega
theorem load2 (h : Rel B L xs C I) : ∀ f i (J : HI), i ≤ nS (I 89) → nS (I 89) - i < f → (∀ c, c ∉ SCR → J c = I c) → (∀ s, s < i → J 75 s = eY (I 89) s ∧ J 76 s = lY (I 89) s) → ∃ K, L_Spans_load_2 C f (nI i) J = some K ∧ fr [19, 24, 75, 76] J K ∧ (∀ s, s < nS (I 89) → K 75 s = eY (I 89) s ∧ K 76 s = lY (I 89) s) := by
  have n8 := h.n8
  intro f
  induction f with
  | zero => intro i J _ h; omega
  | succ f ih =>
    intro i J hi hf hJ hR
    rw [L_Spans_load_2, hJ 1 (by decide), st_nI h]
    by_cases e : nS (I 89) ≤ i
    · rw [if_pos (nI_le e (by omega))]
      exact ⟨J, rfl, fr.refl, fun s hs => hR s (by omega)⟩
    · obtain ⟨J1, a1, a2⟩ := early_c h hJ (s := i) (by omega)
      have hJ1 : ∀ c, c ∉ SCR → xu J1 75 i (eY (I 89) i) c = I c := fun c hc => by rw [xu_ne (by rintro rfl; exact hc (by decide)), a2 c (n_scr (by decide) hc)]; exact hJ c hc
      obtain ⟨J2, b1, b2⟩ := late_c h hJ1 (s := i) (by omega)
      rw [if_neg (nI_ge (by omega) (by omega)), a1, Option.bind_some, grd_t (bnd_nI (by omega) (by omega)), nI_clamp (by omega), nI_1]
      simp only [lt_def]
      rw [b1, Option.bind_some]
      have f2 : fr [19, 24, 75, 76] J (xu J2 76 i (lY (I 89) i)) := fr.wr (by decide) (fr.trans (fr.wr (by decide) (fr.sub (by decide) a2)) (fr.sub (by decide) b2))
      obtain ⟨K, k1, k2, k3⟩ := ih (i + 1) (xu J2 76 i (lY (I 89) i)) (by omega) (by omega) (fun c hc => by rw [xu_ne (by rintro rfl; exact hc (by decide)), b2 c (n_scr (by decide) hc)]; exact hJ1 c hc) (fun s hs => by
        rw [xu_qn (show (75 : Nat) ≠ 76 by decide), b2 75 (by decide)]
        by_cases es : s = i
        · subst es; rw [xu_rr, xu_rr]; exact ⟨rfl, rfl⟩
        · rw [xu_rn es, xu_rn es, b2 76 (by decide), xu_qn (by decide), a2 75 (by decide), a2 76 (by decide)]; exact hR s (by omega))
      exact ⟨K, k1, fr.trans f2 k2, k3⟩
theorem load_c (h : Rel B L xs C I) : ∃ K, M_Spans_load C I = some K ∧ fr [19, 24, 75, 76] I K ∧ (∀ s, s < nS (I 89) → K 75 s = eY (I 89) s ∧ K 76 s = lY (I 89) s) := by
  have n8 := h.n8
  obtain ⟨K, k1, k2, k3⟩ := load2 h 1000 0 I (by omega) (by omega) (fun _ _ => rfl) (fun s hs => by omega)
  refine ⟨K, ?_, k2, k3⟩
  unfold M_Spans_load
  rw [show L_Spans_load_2 C 1000 0 I = some K from k1, Option.bind_some]
theorem years2 (hD : WD D) : ∀ f i (J : HI), i ≤ nS D → nS D - i < f → J 89 = D → (∀ s, s < i → J 98 s = eY D s ∧ J 99 s = lY D s) → ∃ K, L_Model_findYears_2 f (nI i) J = some K ∧ fr [88, 92, 98, 99] J K ∧ fk [4, 5, 6, 7, 8, 9] J K ∧ (∀ s, s < nS D → K 98 s = eY D s ∧ K 99 s = lY D s) := by
  have n8 := hD.1.2
  intro f
  induction f with
  | zero => intro i J _ h; omega
  | succ f ih =>
    intro i J hi hf h89 hR
    rw [L_Model_findYears_2, h89, hD.1.1]
    by_cases e : nS D ≤ i
    · rw [if_pos (nI_le e (by omega))]
      exact ⟨J, rfl, fr.refl, fk.refl, fun s hs => hR s (by omega)⟩
    · obtain ⟨J1, a1⟩ := early_m (I := J) (s := i) (by rw [h89]; exact hD) (by rw [h89]; omega)
      have w1 : fr [88, 92] J J1 := w_Model_earlyOf a1
      have v1 : fk [4, 5, 6, 7, 8, 9] J J1 := v_Model_earlyOf a1
      rw [h89] at a1
      have h89' : xu J1 98 i (eY D i) 89 = D := by rw [xu_ne (by decide), w1 89 (by decide)]; exact h89
      obtain ⟨J2, b1⟩ := late_m (I := xu J1 98 i (eY D i)) (s := i) (by rw [h89']; exact hD) (by rw [h89']; omega)
      have w2 : fr [88, 92] (xu J1 98 i (eY D i)) J2 := w_Model_lateOf b1
      have v2 : fk [4, 5, 6, 7, 8, 9] (xu J1 98 i (eY D i)) J2 := v_Model_lateOf b1
      rw [h89'] at b1
      rw [if_neg (nI_ge (by omega) (by omega)), a1, Option.bind_some, grd_t (bnd_nI (by omega) (by omega)), nI_clamp (by omega), nI_1]
      simp only [lt_def]
      rw [b1, Option.bind_some]
      have f2 : fr [88, 92, 98, 99] J (xu J2 99 i (lY D i)) := fr.wr (by decide) (fr.trans (fr.wr (by decide) (fr.sub (by decide) w1)) (fr.sub (by decide) w2))
      have g2 : fk [4, 5, 6, 7, 8, 9] J (xu J2 99 i (lY D i)) := fk.wr0 (by decide) (fk.trans (fk.wr0 (by decide) v1) v2)
      obtain ⟨K, k1, k2, k2', k3⟩ := ih (i + 1) (xu J2 99 i (lY D i)) (by omega) (by omega) (by rw [xu_ne (by decide), w2 89 (by decide)]; exact h89') (fun s hs => by
        rw [xu_qn (show (98 : Nat) ≠ 99 by decide), w2 98 (by decide)]
        by_cases es : s = i
        · subst es; rw [xu_rr, xu_rr]; exact ⟨rfl, rfl⟩
        · rw [xu_rn es, xu_rn es, w2 99 (by decide), xu_qn (by decide), w1 98 (by decide), w1 99 (by decide)]; exact hR s (by omega))
      exact ⟨K, k1, fr.trans f2 k2, fk.trans g2 k2', k3⟩
theorem years_m (hD : WD D) (h89 : J 89 = D) : ∃ K, M_Model_findYears J = some K ∧ fr [88, 92, 98, 99] J K ∧ fk [4, 5, 6, 7, 8, 9] J K ∧ (∀ s, s < nS D → K 98 s = eY D s ∧ K 99 s = lY D s) := by
  have n8 := hD.1.2
  obtain ⟨K, k1, k2, k2', k3⟩ := years2 hD 1000 0 J (by omega) (by omega) h89 (fun s hs => by omega)
  refine ⟨K, ?_, k2, k2', k3⟩
  unfold M_Model_findYears
  rw [show L_Model_findYears_2 1000 0 J = some K from k1, Option.bind_some]
theorem ofI {x : Int32} {i : Int} (h : x.toInt = i) : x = Int32.ofInt i := by rw [← h, Int32.ofInt_toInt]
theorem ofN {x : Int32} {i : Int} (h : -x.toInt = i) : x = Int32.ofInt (-i) := by rw [← h, Int.neg_neg, Int32.ofInt_toInt]
theorem ok_span (h : Rel B L xs C I) (x y : Int32) : OK1 B L xs C (M_H_span C I x y) (fun J => M_Model_span J x y) := by
  have n8 := h.n8
  unfold M_H_span M_Model_span
  simp only [bsome, in_nat y (a := 0) (b := 1) (by decide) (by decide), within_eq]
  rcases ix_case x (nS (I 89)) (by omega) with ⟨s, hs, rfl⟩ | hx
  · rw [hasS_y (st_nI h) (by omega) hs, if_neg one0, nI_clamp (by omega)]
    have hS : ∀ J : HI, J 89 = I 89 → M_Model_isStroke J (nI s) = 1 := fun J hJ => isS_y (n := nS (I 89)) (by rw [hJ]; exact mS_nI h) (by omega) hs
    by_cases hy : ((0 : Nat) : Int) ≤ y.toInt ∧ y.toInt ≤ ((1 : Nat) : Int)
    · have hy' : 0 ≤ y.toInt ∧ y.toInt ≤ (1 : Int32).toInt := hy
      simp only [if_pos hy, if_pos hy', if_neg one0, grd_t (bnd_nI (show s < 8 by omega) (show s < 2 ^ 31 by omega))]
      obtain ⟨J1, a1, a2, a3⟩ := load_c h
      obtain ⟨v, J2, b1, b2, b3⟩ := settle_c h (E := eI (I 89)) (Z := zI (I 89)) (J := J1) (fun s _ => eI_rg s) (fun s _ => zI_rg s) (fun c hc => a2 c (n_scr (by decide) hc)) (fun s hs => by rw [(a3 s hs).1]; rfl) (fun s hs => by rw [(a3 s hs).2]; rfl)
      have fJ : fr [19, 24, 73, 74, 75, 76] I J2 := fr.trans (fr.sub (by decide) a2) (fr.sub (by decide) b2)
      -- the reference, from a state that agrees
      have mm : ∀ J : HI, J 89 = I 89 → ∃ w K1 K, M_Model_findYears J = some K1 ∧ M_Model_pushes K1 = some (w, K) ∧ fr [88, 92, 98, 99] J K ∧ fk [4, 5, 6, 7, 8, 9] J K ∧ ((okS (I 89) (eI (I 89)) (zI (I 89)) ∧ w = 1 ∧ ∀ s, s < nS (I 89) → (K 98 s).toInt = eM (I 89) (eI (I 89)) s ∧ -(K 99 s).toInt = zM (I 89) (zI (I 89)) s) ∨ (¬ okS (I 89) (eI (I 89)) (zI (I 89)) ∧ w = 0)) := by
        intro J hJ
        obtain ⟨K1, c1, c2, c3, c4⟩ := years_m (J := J) h.2.1 hJ
        obtain ⟨w, K, d1, d2, d3⟩ := pushes_m (J := K1) (E := eI (I 89)) (Z := zI (I 89)) h.2.1 (by rw [c2 89 (by decide)]; exact hJ) (fun s _ => eI_rg s) (fun s _ => zI_rg s) (fun s hs => by rw [(c4 s hs).1]; rfl) (fun s hs => by rw [(c4 s hs).2]; rfl)
        have fd : fr [98, 99] K1 K := fun c hc => d2 c (fun e => hc (by simp [e])) (fun e => hc (by simp [e]))
        exact ⟨w, K1, K, c1, d1, fr.trans c2 (fr.sub (by decide) fd), fk.trans c3 (fk.of (by decide) fd), d3⟩
      rcases b3 with ⟨o1, rfl, o2⟩ | ⟨o1, rfl⟩
      · obtain ⟨w, K1, K, c1, d1, fK, gK, d3⟩ := mm J2 (fJ 89 (by decide))
        rcases d3 with ⟨-, rfl, p2⟩ | ⟨p1, -⟩
        · by_cases e0 : y = 0
          · refine ok_val h (v := J2 73 s) (J := J2) (K := K) ?_ fJ (by decide) (by decide) ?_ fK (by decide) (gK 2 (by decide)) (gK 21 (by decide))
            · rw [a1, Option.bind_some, b1, Option.bind_some, if_neg one0, if_pos e0]
            · show (if M_Model_isStroke J2 (nI s) = 0 then _ else _) = _
              rw [hS J2 (fJ 89 (by decide)), if_neg one0, c1, Option.bind_some, d1, Option.bind_some, if_neg one0, if_pos e0, ofI (o2 s hs).1, ← ofI (p2 s hs).1]
          · refine ok_val h (v := J2 74 s) (J := J2) (K := K) ?_ fJ (by decide) (by decide) ?_ fK (by decide) (gK 2 (by decide)) (gK 21 (by decide))
            · rw [a1, Option.bind_some, b1, Option.bind_some, if_neg one0, if_neg e0]
            · show (if M_Model_isStroke J2 (nI s) = 0 then _ else _) = _
              rw [hS J2 (fJ 89 (by decide)), if_neg one0, c1, Option.bind_some, d1, Option.bind_some, if_neg one0, if_neg e0, ofN (o2 s hs).2, ← ofN (p2 s hs).2]
        · exact absurd o1 p1
      · have hR2 : Rel B L xs C J2 := h.fr fJ (by decide) (by rw [fJ 88 (by decide)]) (by rw [fJ 88 (by decide)])
        obtain ⟨w, K1, K, c1, d1, fK, gK, d3⟩ := mm (xu J2 87 2 (J2 87 2 + 1)) (by rw [xu_ne (by decide)]; exact fJ 89 (by decide))
        rcases d3 with ⟨p1, -⟩ | ⟨-, rfl⟩
        · exact absurd p1 o1
        · refine err_ok 2 (by decide) (by decide) hR2 (W := [88, 92, 98, 99]) ?_ ⟨K, fK, by decide, by rw [gK 2 (by decide), xu_qn (by decide)], by rw [gK 21 (by decide), xu_qn (by decide)], ?_⟩
          · rw [a1, Option.bind_some, b1, Option.bind_some, if_pos rfl]; rfl
          · show (if M_Model_isStroke _ (nI s) = 0 then _ else _) = _
            rw [hS _ (by rw [xu_ne (by decide)]; exact fJ 89 (by decide)), if_neg one0, c1, Option.bind_some, d1, Option.bind_some, if_pos rfl]; rfl
    · have hy' : ¬ (0 ≤ y.toInt ∧ y.toInt ≤ (1 : Int32).toInt) := hy
      simp only [if_neg hy, if_neg hy', if_pos rfl]
      refine err_ok0 1 (by decide) (by decide) h rfl ?_
      rw [hS _ e89, if_neg one0]; rfl
  · refine err_ok0 1 (by decide) (by decide) h ?_ ?_
    · rw [hasS_n (st_nI h) (by omega) hx, if_pos rfl]; rfl
    · show (if M_Model_isStroke _ x = 0 then _ else _) = _
      rw [isS_n (n := nS (I 89)) (by rw [e89]; exact mS_nI h) (by omega) hx, if_pos rfl]; rfl
end SM
