/-! spans -/
noncomputable def eM (D : Nat → Int32) (E : Nat → Int) : Nat → Int := itr (uL D) (lL D) (nL D) 8 E
noncomputable def zM (D : Nat → Int32) (Z : Nat → Int) : Nat → Int := itr (lL D) (uL D) (nL D) 8 Z
/-- there are spans: E the least years, Z the greatest, negated -/
def okS (D : Nat → Int32) (E Z : Nat → Int) : Prop := stb (uL D) (lL D) (nL D) (eM D E) ∧ ∀ s, s < nS D → eM D E s ≤ - zM D Z s
section SP
variable {B L : Nat} {xs : Nat → Int32} {C : HC} {I J K : HI} {D : Nat → Int32} {E Z X : Nat → Int} {hi lo : Nat → Nat} {m n : Nat}
theorem hbU (hD : WD D) : ∀ l, l < nL D → uL D l < nS D ∧ lL D l < nS D := fun l hl => ⟨(uL_eq hD hl).2.2.1, (uL_eq hD hl).2.2.2.1⟩
theorem hbL (hD : WD D) : ∀ l, l < nL D → lL D l < nS D ∧ uL D l < nS D := fun l hl => ⟨(uL_eq hD hl).2.2.2.1, (uL_eq hD hl).2.2.1⟩
theorem itr8 (hb : ∀ l, l < m → hi l < n ∧ lo l < n) (hn : n ≤ 9) {r : Nat} (h : stb hi lo m (itr hi lo m r X)) : itr hi lo m r X = itr hi lo m 8 X := by
  rcases Nat.le_total r 8 with hr | hr
  · have := itr_stb h (8 - r)
    rw [show r + (8 - r) = 8 by omega] at this
    exact this.symm
  · have h8 := settled (X0 := X) hb h 8 (by omega)
    have := itr_stb h8 (r - 8)
    rw [show 8 + (r - 8) = r by omega] at this
    exact this
theorem bd_rnd {b : Int} (hb : ∀ l, l < m → hi l < n ∧ lo l < n) (h : ∀ s, s < n → -b ≤ X s ∧ X s ≤ b) : ∀ l, l ≤ m → ∀ s, s < n → -b ≤ rnd hi lo l X s ∧ rnd hi lo l X s ≤ b + l := by
  intro l
  induction l with
  | zero => intro _ s hs; have := h s hs; show _ ≤ X s ∧ X s ≤ _; omega
  | succ l ih =>
    intro hl s hs
    have i := ih (by omega)
    have i1 := i s hs
    have i2 := i (lo l) (hb l (by omega)).2
    have g := rnd_mono (hi := hi) (lo := lo) (X := X) (show l ≤ l + 1 by omega) s
    refine ⟨by omega, ?_⟩
    rw [rnd_s]
    unfold stp
    by_cases c : rnd hi lo l X (lo l) + 1 ≤ rnd hi lo l X (hi l)
    · rw [if_pos c]; omega
    · rw [if_neg c]
      by_cases e : s = hi l
      · rw [e, ui_s]; omega
      · rw [ui_n e]; omega
theorem bd_itr (hb : ∀ l, l < m → hi l < n ∧ lo l < n) (hm : m ≤ 12) (h : ∀ s, s < n → -9999 ≤ X s ∧ X s ≤ 9999) : ∀ r : Nat, ∀ s, s < n → -9999 - 12 * (r : Int) ≤ itr hi lo m r X s ∧ itr hi lo m r X s ≤ 9999 + 12 * (r : Int) := by
  intro r
  induction r with
  | zero => intro s hs; have := h s hs; show _ ≤ X s ∧ X s ≤ _; omega
  | succ r ih =>
    intro s hs
    rw [itr_s]
    have := bd_rnd (b := 9999 + 12 * (r : Int)) (X := itr hi lo m r X) hb (fun s hs => by have := ih s hs; omega) m (Nat.le_refl _) s hs
    omega
/-! the class: up -/
theorem pu32 (h : Rel B L xs C I) {x3 : Int32} (hX : ∀ s, s < nS (I 89) → -20000 ≤ X s ∧ X s ≤ 20000) : ∀ f l (J : HI), l ≤ nL (I 89) → nL (I 89) - l < f → (∀ c, c ∉ SCR → J c = I c) → (∀ s, s < nS (I 89) → (J 73 s).toInt = rnd (uL (I 89)) (lL (I 89)) l X s) → ∃ K, L_Spans_pushUp_32 x3 f (if mvd (uL (I 89)) (lL (I 89)) l X = true then 1 else 0) (nI l) J = some ((if mvd (uL (I 89)) (lL (I 89)) (nL (I 89)) X = true then 1 else 0), K) ∧ (∀ c, c ≠ 73 → K c = J c) ∧ (∀ s, s < nS (I 89) → (K 73 s).toInt = rnd (uL (I 89)) (lL (I 89)) (nL (I 89)) X s) := by
  have n8 := h.n8
  have l12 := h.2.1.2.1.2
  intro f
  induction f with
  | zero => intro l J _ h; omega
  | succ f ih =>
    intro l J hl hf hJ hR
    rw [L_Spans_pushUp_32, hJ 1 (by decide), lk_nI h]
    by_cases e : nL (I 89) ≤ l
    · rw [if_pos (nI_le e (by omega))]
      obtain rfl : l = nL (I 89) := by omega
      exact ⟨J, rfl, fun _ _ => rfl, hR⟩
    · obtain ⟨g1, g2, g3, g4, g5⟩ := lk_c h hJ (l := l) (by omega)
      have b1 := bd_rnd (b := 20000) (hbU h.2.1) hX l (by omega)
      have ex : (J 73 (lL (I 89) l) + 1).toInt = rnd (uL (I 89)) (lL (I 89)) l X (lL (I 89) l) + 1 := by
        have := b1 _ g4
        rw [i_add (by rw [hR _ g4, show (1 : Int32).toInt = 1 from rfl]; omega), hR _ g4]; rfl
      have hrs := rnd_s (hi := uL (I 89)) (lo := lL (I 89)) (X := X) l
      have hms := mvd_s (hi := uL (I 89)) (lo := lL (I 89)) (X := X) l
      rw [if_neg (nI_ge (by omega) (by omega)), grd_t (bnd_nI (show l < 12 by omega) (by omega)), nI_clamp (show l < 2 ^ 31 by omega), g1, g2, grd_t (bnd_nI (show lL (I 89) l < 8 by omega) (by omega)), grd_t (bnd_nI (show uL (I 89) l < 8 by omega) (by omega)), nI_clamp (show lL (I 89) l < 2 ^ 31 by omega), nI_clamp (show uL (I 89) l < 2 ^ 31 by omega), nI_1]
      unfold stp at hrs
      by_cases c : J 73 (lL (I 89) l) + 1 ≤ J 73 (uL (I 89) l)
      · rw [if_pos c]
        rw [i_le, ex, hR _ g3] at c
        rw [if_pos c] at hrs
        have hm2 : mvd (uL (I 89)) (lL (I 89)) (l + 1) X = mvd (uL (I 89)) (lL (I 89)) l X := by rw [hms]; simp [c]
        rw [← hm2]
        exact ih (l + 1) J (by omega) (by omega) hJ (by rw [hrs]; exact hR)
      · rw [if_neg c]
        rw [i_le, ex, hR _ g3] at c
        rw [if_neg c] at hrs
        have hm2 : mvd (uL (I 89)) (lL (I 89)) (l + 1) X = true := by rw [hms]; simp [c]
        obtain ⟨K, k1, k2, k3⟩ := ih (l + 1) (xu J 73 (uL (I 89) l) (J 73 (lL (I 89) l) + 1)) (by omega) (by omega) (fun c hc => by rw [xu_ne (by rintro rfl; exact hc (by decide))]; exact hJ c hc) (fun s hs => by
          rw [hrs]
          by_cases es : s = uL (I 89) l
          · rw [es, xu_rr, ui_s]; exact ex
          · rw [xu_rn es, ui_n es]; exact hR s hs)
        rw [hm2, if_pos rfl] at k1
        exact ⟨K, k1, fun c hc => by rw [k2 c hc, xu_ne hc], k3⟩
theorem pu15 (h : Rel B L xs C I) (hX : ∀ s, s < nS (I 89) → -9999 ≤ X s ∧ X s ≤ 9999) : ∀ f r (b : Bool) (J : HI), r ≤ nS (I 89) → nS (I 89) - r < f → (∀ c, c ∉ SCR → J c = I c) → (∀ s, s < nS (I 89) → (J 73 s).toInt = itr (uL (I 89)) (lL (I 89)) (nL (I 89)) r X s) → (b = false → stb (uL (I 89)) (lL (I 89)) (nL (I 89)) (itr (uL (I 89)) (lL (I 89)) (nL (I 89)) r X)) → (b = true → r = 0 ∨ mvd (uL (I 89)) (lL (I 89)) (nL (I 89)) (itr (uL (I 89)) (lL (I 89)) (nL (I 89)) (r - 1) X) = true) → ∃ b' r' K, L_Spans_pushUp_15 f (if b = true then 1 else 0) (nI r) J = some ((if b' = true then 1 else 0), K) ∧ (∀ c, c ≠ 73 → K c = J c) ∧ (∀ s, s < nS (I 89) → (K 73 s).toInt = itr (uL (I 89)) (lL (I 89)) (nL (I 89)) r' X s) ∧ (b' = false → stb (uL (I 89)) (lL (I 89)) (nL (I 89)) (itr (uL (I 89)) (lL (I 89)) (nL (I 89)) r' X)) ∧ (b' = true → r' = nS (I 89) ∧ (r' = 0 ∨ mvd (uL (I 89)) (lL (I 89)) (nL (I 89)) (itr (uL (I 89)) (lL (I 89)) (nL (I 89)) (r' - 1) X) = true)) := by
  have n8 := h.n8
  have l12 := h.2.1.2.1.2
  intro f
  induction f with
  | zero => intro r b J _ h; omega
  | succ f ih =>
    intro r b J hr hf hJ hR hb0 hb1
    rw [L_Spans_pushUp_15, hJ 1 (by decide), st_nI h]
    by_cases e : nS (I 89) ≤ r
    · rw [if_pos (nI_le e (by omega))]
      obtain rfl : r = nS (I 89) := by omega
      exact ⟨b, _, J, rfl, fun _ _ => rfl, hR, hb0, fun e => ⟨rfl, hb1 e⟩⟩
    · rw [if_neg (nI_ge (by omega) (by omega))]
      cases b with
      | false =>
        rw [if_neg (show ¬ (false = true) by decide), if_pos rfl]
        exact ⟨false, r, J, rfl, fun _ _ => rfl, hR, hb0, fun e => by cases e⟩
      | true =>
        rw [if_pos (show true = true from rfl), if_neg one0]
        have bd := bd_itr (hbU h.2.1) l12 hX r
        obtain ⟨K, k1, k2, k3⟩ := pu32 h (x3 := nI r) (X := itr (uL (I 89)) (lL (I 89)) (nL (I 89)) r X) (fun s hs => by have := bd s hs; omega) 1000 0 J (by omega) (by omega) hJ hR
        rw [show L_Spans_pushUp_32 (nI r) 1000 0 0 J = _ from k1, Option.bind_some, nI_1]
        obtain ⟨b', r', M, m1, m2, m3, m4, m5⟩ := ih (r + 1) (mvd (uL (I 89)) (lL (I 89)) (nL (I 89)) (itr (uL (I 89)) (lL (I 89)) (nL (I 89)) r X)) K (by omega) (by omega) (fun c hc => by rw [k2 c (by rintro rfl; exact hc (by decide))]; exact hJ c hc) k3 (fun e => by
          obtain ⟨q1, q2⟩ := mvd_stb _ e
          rw [itr_s, q1]
          exact q2) (fun e => Or.inr e)
        exact ⟨b', r', M, m1, fun c hc => by rw [m2 c hc, k2 c hc], m3, m4, m5⟩
theorem pushUp_c (h : Rel B L xs C I) (hX : ∀ s, s < nS (I 89) → -9999 ≤ X s ∧ X s ≤ 9999) (hJ : ∀ c, c ∉ SCR → J c = I c) (hR : ∀ s, s < nS (I 89) → (J 73 s).toInt = X s) : ∃ v K, M_Spans_pushUp J = some (v, K) ∧ (∀ c, c ≠ 73 → K c = J c) ∧ ((v = 1 ∧ stb (uL (I 89)) (lL (I 89)) (nL (I 89)) (eM (I 89) X) ∧ ∀ s, s < nS (I 89) → (K 73 s).toInt = eM (I 89) X s) ∨ (v = 0 ∧ ¬ stb (uL (I 89)) (lL (I 89)) (nL (I 89)) (eM (I 89) X))) := by
  have n8 := h.n8
  have l12 := h.2.1.2.1.2
  have fin : ∀ b : Bool, (b = false → stb (uL (I 89)) (lL (I 89)) (nL (I 89)) X) → (b = true → 0 < nL (I 89)) → ∃ v K, (Option.bind (L_Spans_pushUp_15 1000 (if b = true then 1 else 0) 0 J) fun p2 => if p2.1 = 0 then some ((1 : Int32), p2.2) else some ((0 : Int32), p2.2)) = some (v, K) ∧ (∀ c, c ≠ 73 → K c = J c) ∧ ((v = 1 ∧ stb (uL (I 89)) (lL (I 89)) (nL (I 89)) (eM (I 89) X) ∧ ∀ s, s < nS (I 89) → (K 73 s).toInt = eM (I 89) X s) ∨ (v = 0 ∧ ¬ stb (uL (I 89)) (lL (I 89)) (nL (I 89)) (eM (I 89) X))) := by
    intro b hb0 hb1
    obtain ⟨b', r', K, k1, k2, k3, k4, k5⟩ := pu15 h hX 1000 0 b J (by omega) (by omega) hJ hR hb0 (fun _ => Or.inl rfl)
    rw [show L_Spans_pushUp_15 1000 (if b = true then 1 else 0) 0 J = _ from k1, Option.bind_some]
    cases b' with
    | false =>
      refine ⟨1, K, rfl, k2, Or.inl ⟨rfl, ?_⟩⟩
      have e := itr8 (hbU h.2.1) (by omega) (k4 rfl)
      unfold eM
      rw [← e]
      exact ⟨k4 rfl, k3⟩
    | true =>
      refine ⟨0, K, rfl, k2, Or.inr ⟨rfl, fun hs => ?_⟩⟩
      obtain ⟨e1, e2⟩ := k5 rfl
      have hpos : nS (I 89) ≠ 0 := by
        intro hz
        -- no strokes: no looks
        cases hbb : b with
        | false =>
          have hst := hb0 hbb
          have k1' := k1
          rw [hbb] at k1'
          rw [L_Spans_pushUp_15, hJ 1 (by decide), st_nI h, hz] at k1'
          have := Option.some.inj k1'
          have := congrArg (fun p => p.1) this
          exact absurd (show (0 : Int32) = 1 from this) (by decide)
        | true =>
          have := (hbU h.2.1 0 (hb1 hbb)).1
          omega
      rcases e2 with e2 | e2
      · omega
      · have h8 := settled (X0 := X) (hbU h.2.1) hs (r' - 1) (by omega)
        have := (stb_mvd h8 _ (Nat.le_refl _)).1
        rw [this] at e2
        cases e2
  unfold M_Spans_pushUp
  rw [hJ 1 (by decide), lk_nI h]
  by_cases e : nL (I 89) = 0
  · rw [if_pos (by rw [e]; decide)]
    exact fin false (fun _ l hl => by omega) (fun e => by cases e)
  · rw [if_neg (nI_nle (by omega) (by omega))]
    exact fin true (fun e => by cases e) (fun _ => by omega)
/-! the class: down -/
theorem pd21 (h : Rel B L xs C I) {x3 : Int32} (hX : ∀ s, s < nS (I 89) → -20000 ≤ X s ∧ X s ≤ 20000) : ∀ f l (J : HI), l ≤ nL (I 89) → nL (I 89) - l < f → (∀ c, c ∉ SCR → J c = I c) → (∀ s, s < nS (I 89) → -(J 74 s).toInt = rnd (lL (I 89)) (uL (I 89)) l X s) → ∃ K, L_Spans_pushDown_21 x3 f (if mvd (lL (I 89)) (uL (I 89)) l X = true then 1 else 0) (nI l) J = some ((if mvd (lL (I 89)) (uL (I 89)) (nL (I 89)) X = true then 1 else 0), K) ∧ (∀ c, c ≠ 74 → K c = J c) ∧ (∀ s, s < nS (I 89) → -(K 74 s).toInt = rnd (lL (I 89)) (uL (I 89)) (nL (I 89)) X s) := by
  have n8 := h.n8
  have l12 := h.2.1.2.1.2
  intro f
  induction f with
  | zero => intro l J _ h; omega
  | succ f ih =>
    intro l J hl hf hJ hR
    rw [L_Spans_pushDown_21, hJ 1 (by decide), lk_nI h]
    by_cases e : nL (I 89) ≤ l
    · rw [if_pos (nI_le e (by omega))]
      obtain rfl : l = nL (I 89) := by omega
      exact ⟨J, rfl, fun _ _ => rfl, hR⟩
    · obtain ⟨g1, g2, g3, g4, g5⟩ := lk_c h hJ (l := l) (by omega)
      have b1 := bd_rnd (b := 20000) (hbL h.2.1) hX l (by omega)
      have ex : (J 74 (uL (I 89) l) - 1).toInt = -(rnd (lL (I 89)) (uL (I 89)) l X (uL (I 89) l) + 1) := by
        have a1 := b1 _ g3
        have a2 := hR _ g3
        rw [i_sub (by rw [show (1 : Int32).toInt = 1 from rfl]; omega), show (1 : Int32).toInt = 1 from rfl]; omega
      have hrs := rnd_s (hi := lL (I 89)) (lo := uL (I 89)) (X := X) l
      have hms := mvd_s (hi := lL (I 89)) (lo := uL (I 89)) (X := X) l
      have hw := hR _ g4
      rw [if_neg (nI_ge (by omega) (by omega)), grd_t (bnd_nI (show l < 12 by omega) (by omega)), nI_clamp (show l < 2 ^ 31 by omega), g1, g2, grd_t (bnd_nI (show uL (I 89) l < 8 by omega) (by omega)), grd_t (bnd_nI (show lL (I 89) l < 8 by omega) (by omega)), nI_clamp (show lL (I 89) l < 2 ^ 31 by omega), nI_clamp (show uL (I 89) l < 2 ^ 31 by omega), nI_1]
      unfold stp at hrs
      by_cases c : J 74 (lL (I 89) l) ≤ J 74 (uL (I 89) l) - 1
      · rw [if_pos c]
        rw [i_le, ex] at c
        have c' : rnd (lL (I 89)) (uL (I 89)) l X (uL (I 89) l) + 1 ≤ rnd (lL (I 89)) (uL (I 89)) l X (lL (I 89) l) := by omega
        rw [if_pos c'] at hrs
        have hm2 : mvd (lL (I 89)) (uL (I 89)) (l + 1) X = mvd (lL (I 89)) (uL (I 89)) l X := by rw [hms]; simp [c']
        rw [← hm2]
        exact ih (l + 1) J (by omega) (by omega) hJ (by rw [hrs]; exact hR)
      · rw [if_neg c]
        rw [i_le, ex] at c
        have c' : ¬ rnd (lL (I 89)) (uL (I 89)) l X (uL (I 89) l) + 1 ≤ rnd (lL (I 89)) (uL (I 89)) l X (lL (I 89) l) := by omega
        rw [if_neg c'] at hrs
        have hm2 : mvd (lL (I 89)) (uL (I 89)) (l + 1) X = true := by rw [hms]; simp [c']
        obtain ⟨K, k1, k2, k3⟩ := ih (l + 1) (xu J 74 (lL (I 89) l) (J 74 (uL (I 89) l) - 1)) (by omega) (by omega) (fun c hc => by rw [xu_ne (by rintro rfl; exact hc (by decide))]; exact hJ c hc) (fun s hs => by
          rw [hrs]
          by_cases es : s = lL (I 89) l
          · rw [es, xu_rr, ui_s, ex]; omega
          · rw [xu_rn es, ui_n es]; exact hR s hs)
        rw [hm2, if_pos rfl] at k1
        exact ⟨K, k1, fun c hc => by rw [k2 c hc, xu_ne hc], k3⟩
theorem pd4 (h : Rel B L xs C I) (hX : ∀ s, s < nS (I 89) → -9999 ≤ X s ∧ X s ≤ 9999) : ∀ f r (b : Bool) (J : HI), r ≤ nS (I 89) → nS (I 89) - r < f → (∀ c, c ∉ SCR → J c = I c) → (∀ s, s < nS (I 89) → -(J 74 s).toInt = itr (lL (I 89)) (uL (I 89)) (nL (I 89)) r X s) → (b = false → stb (lL (I 89)) (uL (I 89)) (nL (I 89)) (itr (lL (I 89)) (uL (I 89)) (nL (I 89)) r X)) → ∃ r' K, L_Spans_pushDown_4 f (if b = true then 1 else 0) (nI r) J = some K ∧ (∀ c, c ≠ 74 → K c = J c) ∧ (∀ s, s < nS (I 89) → -(K 74 s).toInt = itr (lL (I 89)) (uL (I 89)) (nL (I 89)) r' X s) ∧ (r' = nS (I 89) ∨ stb (lL (I 89)) (uL (I 89)) (nL (I 89)) (itr (lL (I 89)) (uL (I 89)) (nL (I 89)) r' X)) := by
  have n8 := h.n8
  have l12 := h.2.1.2.1.2
  intro f
  induction f with
  | zero => intro r b J _ h; omega
  | succ f ih =>
    intro r b J hr hf hJ hR hb0
    rw [L_Spans_pushDown_4, hJ 1 (by decide), st_nI h]
    by_cases e : nS (I 89) ≤ r
    · rw [if_pos (nI_le e (by omega))]
      obtain rfl : r = nS (I 89) := by omega
      exact ⟨_, J, rfl, fun _ _ => rfl, hR, Or.inl rfl⟩
    · rw [if_neg (nI_ge (by omega) (by omega))]
      cases b with
      | false =>
        rw [if_neg (show ¬ (false = true) by decide), if_pos rfl]
        exact ⟨r, J, rfl, fun _ _ => rfl, hR, Or.inr (hb0 rfl)⟩
      | true =>
        rw [if_pos (show true = true from rfl), if_neg one0]
        have bd := bd_itr (hbL h.2.1) l12 hX r
        obtain ⟨K, k1, k2, k3⟩ := pd21 h (x3 := nI r) (X := itr (lL (I 89)) (uL (I 89)) (nL (I 89)) r X) (fun s hs => by have := bd s hs; omega) 1000 0 J (by omega) (by omega) hJ hR
        rw [show L_Spans_pushDown_21 (nI r) 1000 0 0 J = _ from k1, Option.bind_some, nI_1]
        obtain ⟨r', M, m1, m2, m3, m4⟩ := ih (r + 1) (mvd (lL (I 89)) (uL (I 89)) (nL (I 89)) (itr (lL (I 89)) (uL (I 89)) (nL (I 89)) r X)) K (by omega) (by omega) (fun c hc => by rw [k2 c (by rintro rfl; exact hc (by decide))]; exact hJ c hc) k3 (fun e => by
          obtain ⟨q1, q2⟩ := mvd_stb _ e
          rw [itr_s, q1]
          exact q2)
        exact ⟨r', M, m1, fun c hc => by rw [m2 c hc, k2 c hc], m3, m4⟩
/-- stable one way, stable the other -/
theorem stb_neg (h : stb hi lo m X) : stb lo hi m (fun s => - X s) := fun l hl => by
  have := h l hl
  show - X (hi l) + 1 ≤ - X (lo l)
  omega
theorem pushDown_c (h : Rel B L xs C I) {Y : Nat → Int} (hY : stb (uL (I 89)) (lL (I 89)) (nL (I 89)) Y) (hX : ∀ s, s < nS (I 89) → -9999 ≤ X s ∧ X s ≤ 9999) (hJ : ∀ c, c ∉ SCR → J c = I c) (hR : ∀ s, s < nS (I 89) → -(J 74 s).toInt = X s) : ∃ K, M_Spans_pushDown J = some K ∧ (∀ c, c ≠ 74 → K c = J c) ∧ (∀ s, s < nS (I 89) → -(K 74 s).toInt = zM (I 89) X s) := by
  have n8 := h.n8
  obtain ⟨r', K, k1, k2, k3, k4⟩ := pd4 h hX 1000 0 true J (by omega) (by omega) hJ hR (fun e => by cases e)
  refine ⟨K, ?_, k2, ?_⟩
  · unfold M_Spans_pushDown
    rw [show L_Spans_pushDown_4 1000 1 0 J = some K from k1, Option.bind_some]
  · have hs : stb (lL (I 89)) (uL (I 89)) (nL (I 89)) (itr (lL (I 89)) (uL (I 89)) (nL (I 89)) r' X) := by
      rcases k4 with e | e
      · exact settled (hbL h.2.1) (stb_neg hY) r' (by omega)
      · exact e
    have e := itr8 (hbL h.2.1) (by omega) hs
    unfold zM
    rw [← e]
    exact k3
/-- the least years below the first late ones: below the last too -/
theorem le_late (hD : WD D) (hS : stb (uL D) (lL D) (nL D) (eM D E)) : (∀ s, s < nS D → eM D E s ≤ - Z s) ↔ ∀ s, s < nS D → eM D E s ≤ - zM D Z s := by
  constructor
  · intro h s hs
    have := itr_le (X := Z) (hbL hD) (stb_neg hS) (fun s hs => by have := h s hs; show Z s ≤ - eM D E s; omega) 8 s hs
    show eM D E s ≤ - itr (lL D) (uL D) (nL D) 8 Z s
    have e : itr (lL D) (uL D) (nL D) 8 Z s ≤ - eM D E s := this
    omega
  · intro h s hs
    have a := h s hs
    have b : Z s ≤ zM D Z s := itr_ge 8 s
    omega
theorem st2 (h : Rel B L xs C I) : ∀ f i (J : HI), i ≤ nS (I 89) → nS (I 89) - i < f → (∀ c, c ∉ SCR → J c = I c) → (∀ s, s < i → J 73 s = J 75 s ∧ J 74 s = J 76 s) → ∃ K, L_Spans_settle_2 f (nI i) J = some K ∧ (∀ c, c ≠ 73 → c ≠ 74 → K c = J c) ∧ (∀ s, s < nS (I 89) → K 73 s = J 75 s ∧ K 74 s = J 76 s) := by
  have n8 := h.n8
  intro f
  induction f with
  | zero => intro i J _ h; omega
  | succ f ih =>
    intro i J hi hf hJ hR
    rw [L_Spans_settle_2, hJ 1 (by decide), st_nI h]
    by_cases e : nS (I 89) ≤ i
    · rw [if_pos (nI_le e (by omega))]
      exact ⟨J, rfl, fun _ _ _ => rfl, fun s hs => hR s (by omega)⟩
    · rw [if_neg (nI_ge (by omega) (by omega)), grd_t (bnd_nI (by omega) (by omega)), nI_clamp (by omega), nI_1]
      simp only [lt_def]
      rw [xu_qn (show (76 : Nat) ≠ 73 by decide)]
      obtain ⟨K, k1, k2, k3⟩ := ih (i + 1) (xu (xu J 73 i (J 75 i)) 74 i (J 76 i)) (by omega) (by omega) (fun c hc => by rw [xu_ne (by rintro rfl; exact hc (by decide)), xu_ne (by rintro rfl; exact hc (by decide))]; exact hJ c hc) (fun s hs => by
        rw [xu_qn (show (73 : Nat) ≠ 74 by decide), xu_qn (show (75 : Nat) ≠ 74 by decide), xu_qn (show (75 : Nat) ≠ 73 by decide), xu_qn (show (76 : Nat) ≠ 74 by decide), xu_qn (show (76 : Nat) ≠ 73 by decide)]
        by_cases es : s = i
        · subst es; rw [xu_rr, xu_rr]; exact ⟨rfl, rfl⟩
        · rw [xu_rn es, xu_rn es, xu_qn (by decide)]; exact hR s (by omega))
      refine ⟨K, k1, fun c c1 c2 => by rw [k2 c c1 c2, xu_ne c2, xu_ne c1], fun s hs => ?_⟩
      have := k3 s hs
      rw [xu_qn (show (75 : Nat) ≠ 74 by decide), xu_qn (show (75 : Nat) ≠ 73 by decide), xu_qn (show (76 : Nat) ≠ 74 by decide), xu_qn (show (76 : Nat) ≠ 73 by decide)] at this
      exact this
theorem st52 (h : Rel B L xs C I) (hJ : ∀ c, c ∉ SCR → J c = I c) : ((∃ s, s < nS (I 89) ∧ ¬ J 73 s ≤ J 76 s) ∧ L_Spans_settle_52 J 1000 0 = some 0) ∨ ((∀ s, s < nS (I 89) → J 73 s ≤ J 76 s) ∧ L_Spans_settle_52 J 1000 0 = some 1) := by
  have n8 := h.n8
  have key := srch (fun f i => L_Spans_settle_52 J f (nI i)) (nS (I 89)) (fun i => ¬ J 73 i ≤ J 76 i) (fun _ => 0) 1 ?_ ?_ ?_ 1000 0 (by omega) (by omega)
  · rcases key with ⟨j, j1, j2, j3, j4, j5⟩ | ⟨j1, j2⟩
    · exact Or.inl ⟨⟨j, j2, j3⟩, j5⟩
    · exact Or.inr ⟨fun s hs => Classical.byContradiction fun hc => j1 s (by omega) hs hc, j2⟩
  · intro f i hi hp
    show L_Spans_settle_52 J (f + 1) (nI i) = _
    rw [L_Spans_settle_52, hJ 1 (by decide), st_nI h, if_neg (nI_ge hi (by omega)), grd_t (bnd_nI (by omega) (by omega)), nI_clamp (by omega), if_pos (Classical.byContradiction hp), nI_1]
  · intro f i hi hp
    show L_Spans_settle_52 J (f + 1) (nI i) = _
    rw [L_Spans_settle_52, hJ 1 (by decide), st_nI h, if_neg (nI_ge hi (by omega)), grd_t (bnd_nI (by omega) (by omega)), nI_clamp (by omega), if_neg hp]
  · intro f
    show L_Spans_settle_52 J (f + 1) (nI (nS (I 89))) = _
    rw [L_Spans_settle_52, hJ 1 (by decide), st_nI h, if_pos (nI_le (Nat.le_refl _) (by omega))]
theorem settle_c (h : Rel B L xs C I) (hE : ∀ s, s < nS (I 89) → 0 ≤ E s ∧ E s ≤ 9999) (hZ : ∀ s, s < nS (I 89) → -9999 ≤ Z s ∧ Z s ≤ 0) (hJ : ∀ c, c ∉ SCR → J c = I c) (h75 : ∀ s, s < nS (I 89) → (J 75 s).toInt = E s) (h76 : ∀ s, s < nS (I 89) → -(J 76 s).toInt = Z s) : ∃ v K, M_Spans_settle J = some (v, K) ∧ fr [73, 74] J K ∧ ((okS (I 89) E Z ∧ v = 1 ∧ ∀ s, s < nS (I 89) → (K 73 s).toInt = eM (I 89) E s ∧ -(K 74 s).toInt = zM (I 89) Z s) ∨ (¬ okS (I 89) E Z ∧ v = 0)) := by
  have n8 := h.n8
  obtain ⟨J1, a1, a2, a3⟩ := st2 h 1000 0 J (by omega) (by omega) hJ (fun s hs => by omega)
  have hJ1 : ∀ c, c ∉ SCR → J1 c = I c := fun c hc => by rw [a2 c (by rintro rfl; exact hc (by decide)) (by rintro rfl; exact hc (by decide))]; exact hJ c hc
  obtain ⟨v, J2, b1, b2, b3⟩ := pushUp_c h (X := E) (J := J1) (fun s hs => by have := hE s hs; omega) hJ1 (fun s hs => by rw [(a3 s hs).1]; exact h75 s hs)
  have hJ2 : ∀ c, c ∉ SCR → J2 c = I c := fun c hc => by rw [b2 c (by rintro rfl; exact hc (by decide))]; exact hJ1 c hc
  have f2 : fr [73, 74] J J2 := fun c hc => by rw [b2 c (fun e => hc (by simp [e])), a2 c (fun e => hc (by simp [e])) (fun e => hc (by simp [e]))]
  unfold M_Spans_settle
  rw [show L_Spans_settle_2 1000 0 J = some J1 from a1, Option.bind_some, b1, Option.bind_some]
  rcases b3 with ⟨rfl, c1, c2⟩ | ⟨rfl, c1⟩
  · have e76 : ∀ s, s < nS (I 89) → (J2 73 s ≤ J2 76 s ↔ eM (I 89) E s ≤ - Z s) := fun s hs => by
      have := h76 s hs
      rw [i_le, c2 s hs, b2 76 (by decide), a2 76 (by decide) (by decide)]
      constructor <;> intro <;> omega
    simp only []
    rw [if_neg one0]
    rcases st52 h hJ2 with ⟨⟨s, s1, s2⟩, d2⟩ | ⟨d1, d2⟩
    · rw [d2, Option.bind_some, if_pos rfl]
      refine ⟨0, J2, rfl, f2, Or.inr ⟨fun ho => s2 ((e76 s s1).mpr ((le_late h.2.1 c1).mpr ho.2 s s1)), rfl⟩⟩
    · rw [d2, Option.bind_some, if_neg (by decide)]
      obtain ⟨K, k1, k2, k3⟩ := pushDown_c h (Y := eM (I 89) E) (X := Z) (J := J2) c1 (fun s hs => by have := hZ s hs; omega) hJ2 (fun s hs => by rw [b2 74 (by decide), (a3 s hs).2]; exact h76 s hs)
      rw [k1, Option.bind_some]
      refine ⟨1, K, rfl, fr.trans f2 (fun c hc => k2 c (fun e => hc (by simp [e]))), Or.inl ⟨⟨c1, (le_late h.2.1 c1).mp (fun s hs => (e76 s hs).mp (d1 s hs))⟩, rfl, fun s hs => ⟨by rw [k2 73 (by decide)]; exact c2 s hs, k3 s hs⟩⟩⟩
  · simp only []
    rw [if_pos trivial]
    exact ⟨0, J2, rfl, f2, Or.inr ⟨fun ho => c1 ho.1, rfl⟩⟩
end SP
