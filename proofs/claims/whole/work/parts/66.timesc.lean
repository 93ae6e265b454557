/-! the fewest times: class and reference -/
section TJ
variable {B L : Nat} {xs : Nat → Int32} {C : HC} {I J K : HI} {D V V' : Nat → Int32} {n : Nat}
theorem fa2 : ∀ f i (J : HI), i ≤ 4 → 4 - i < f → ∃ K, L_Sets_findAlike_2 f (nI i) J = some K ∧ (∀ c, c ≠ 68 → K c = J c) ∧ (∀ s, s < i → K 68 s = J 68 s) ∧ (∀ s, i ≤ s → s < 4 → K 68 s = 0) := by
  intro f
  induction f with
  | zero => intro i J _ h; omega
  | succ f ih =>
    intro i J hi hf
    rw [L_Sets_findAlike_2]
    by_cases h : 4 ≤ i
    · rw [if_pos (c_le 4 4 h (by omega))]
      exact ⟨J, rfl, fun _ _ => rfl, fun _ _ => rfl, fun s _ _ => by omega⟩
    · rw [if_neg (c_nle 4 4 (by omega)), grd_t (bnd_nI (by omega) (by omega)), nI_clamp (by omega), nI_1]
      obtain ⟨K, k1, k2, k3, k4⟩ := ih (i + 1) (xu J 68 i 0) (by omega) (by omega)
      refine ⟨K, k1, fun c hc => by rw [k2 c hc, xu_ne hc], fun s hs => by rw [k3 s (by omega), xu_rn (by omega)], fun s h1 h2 => ?_⟩
      by_cases e : s = i
      · subst e; rw [k3 s (by omega), xu_rr]
      · exact k4 s (by omega) h2
theorem vst (h : Rel B L xs C I) {s : Nat} (hs : s < nS (I 89)) : gS C (hT C s) = true ∧ M_Vstuff C (hT C s) = nI (stf (kd (I 89) s)) ∧ stf (kd (I 89) s) < 4 := by
  have n8 := h.n8
  have g := h.gT (show s < 8 by omega)
  have k7 := gS_k g
  have e : kd (I 89) s = kc C (hT C s) := by
    unfold kd
    rw [(h.2.2.1.2.1 s hs).1, nI_clamp (by omega)]
  rw [e]
  exact ⟨g, vstuff _ k7, stf_lt k7⟩
theorem fa22 (h : Rel B L xs C I) : ∀ f i (J : HI), i ≤ nS (I 89) → nS (I 89) - i < f → (∀ c, c ∉ SCR → J c = I c) → (∀ j, j < 4 → J 68 j = nI (al (I 89) j i)) → ∃ K, L_Sets_findAlike_22 C f (nI i) J = some K ∧ (∀ c, c ≠ 68 → K c = J c) ∧ (∀ j, j < 4 → K 68 j = nI (al (I 89) j (nS (I 89)))) := by
  have n8 := h.n8
  have h256 := lt_p2 (nS (I 89)) (by omega)
  intro f
  induction f with
  | zero => intro i J _ h; omega
  | succ f ih =>
    intro i J hi hf hJ hI
    rw [L_Sets_findAlike_22, hJ 1 (by decide), st_nI h]
    by_cases hl : nS (I 89) ≤ i
    · rw [if_pos (nI_le hl (by omega))]
      obtain rfl : i = nS (I 89) := by omega
      exact ⟨J, rfl, fun _ _ => rfl, hI⟩
    · obtain ⟨g1, g2, g3⟩ := vst h (s := i) (by omega)
      have hlt := al_lt (D := I 89) (n := nS (I 89)) (stf (kd (I 89) i)) i (by omega)
      rw [if_neg (nI_ge (by omega) (by omega)), nI_clamp (show i < 2 ^ 31 by omega), g2, grd_t (by rw [bnd_nI (by omega) (by omega), g1]; rfl), grd_t (bnd_nI (by omega) (by omega)), nI_clamp (by omega), nI_1, hI _ g3, mk_set _ (by omega) _ (by omega)]
      obtain ⟨K, k1, k2, k3⟩ := ih (i + 1) (xu J 68 (stf (kd (I 89) i)) (nI (al (I 89) (stf (kd (I 89) i)) i ||| 2 ^ i))) (by omega) (by omega) (fun c hc => by rw [xu_ne (by rintro rfl; exact hc (by decide))]; exact hJ c hc) (fun j hj => by
        rw [al_s]
        by_cases e : stf (kd (I 89) i) = j
        · subst e; rw [xu_rr, if_pos rfl]
        · rw [xu_rn (fun e' => e e'.symm), if_neg e]; exact hI j hj)
      exact ⟨K, k1, fun c hc => by rw [k2 c hc, xu_ne hc], k3⟩
theorem alike_c (h : Rel B L xs C I) (hJ : ∀ c, c ∉ SCR → J c = I c) : ∃ K, M_Sets_findAlike C J = some K ∧ (∀ c, c ≠ 68 → K c = J c) ∧ (∀ j, j < 4 → K 68 j = nI (al (I 89) j (nS (I 89)))) := by
  have n8 := h.n8
  obtain ⟨K, k1, k2, k3, k4⟩ := fa2 1000 0 J (by omega) (by omega)
  obtain ⟨M, m1, m2, m3⟩ := fa22 h 1000 0 K (by omega) (by omega) (fun c hc => by rw [k2 c (by rintro rfl; exact hc (by decide))]; exact hJ c hc) (fun j hj => k4 j (by omega) hj)
  refine ⟨M, ?_, fun c hc => by rw [m2 c hc, k2 c hc], m3⟩
  unfold M_Sets_findAlike
  rw [show L_Sets_findAlike_2 1000 0 J = some K from k1, Option.bind_some, show L_Sets_findAlike_22 C 1000 0 K = some M from m1, Option.bind_some]
theorem tC_gt {a j : Nat} (ha : a < 2 ^ n) (h : tk D n a j ≠ 0) : a < a ||| tk D n a j ∧ a ||| tk D n a j < 2 ^ n := by
  obtain ⟨k, k1, k2⟩ := ne0_ex (tk_lt (D := D) a j) h
  exact ⟨or_gt2 (may_b ((tk_t a j k).mp k2).2.1) k2, or_lt2 ha (tk_lt a j)⟩
theorem tC_c {a : Nat} (ha : a < 2 ^ n) (h : tC D n V a) (hv : V' a = V a) (hb : ∀ b, a < b → b < 2 ^ n → V' b = V b) : tC D n V' a := by
  refine ⟨fun e => by rw [hv]; exact h.1 e, fun e => ?_⟩
  rw [hv]
  exact (h.2 e).c (fun _ => Iff.rfl) (fun j hj => by
    have := tC_gt ha hj.2
    show V' (a ||| tk D n a j) + 1 = V (a ||| tk D n a j) + 1
    rw [hb _ this.1 this.2])
theorem ft52 {a : Nat} (hn : n ≤ 8) (ha : a < 2 ^ n) : ∀ f i (J : HI), i ≤ 4 → 4 - i < f → (∀ j, j < 4 → J 68 j = nI (al D j n)) → (∀ b, b ≠ a → J 70 b = V b) → MinOf (J 70 a) (fun j => j < i ∧ tk D n a j ≠ 0) (fun j => V (a ||| tk D n a j) + 1) → ∃ K, L_Sets_findTimes_52 (nI a) (nI (rd D a n)) f (nI i) J = some K ∧ (∀ c, c ≠ 70 → K c = J c) ∧ (∀ b, b ≠ a → K 70 b = V b) ∧ MinOf (K 70 a) (fun j => j < 4 ∧ tk D n a j ≠ 0) (fun j => V (a ||| tk D n a j) + 1) := by
  have h256 := lt_p2 n (by omega)
  intro f
  induction f with
  | zero => intro i J _ h; omega
  | succ f ih =>
    intro i J hi hf h68 hW hv
    rw [L_Sets_findTimes_52]
    by_cases h : 4 ≤ i
    · obtain rfl : i = 4 := by omega
      rw [if_pos (c_le 4 4 h (by omega))]
      exact ⟨J, rfl, fun _ _ => rfl, hW, hv⟩
    · have ht := tk_lt (D := D) (n := n) a i
      rw [if_neg (c_nle 4 4 (by omega)), grd_t (bnd_nI (by omega) (by omega)), nI_clamp (show i < 2 ^ 31 by omega), nI_1, h68 i (by omega), nx_and, show rd D a n &&& al D i n = tk D n a i from rfl]
      by_cases e : tk D n a i = 0
      · rw [if_pos (by rw [e]; rfl)]
        exact ih (i + 1) J (by omega) (by omega) h68 hW (hv.c (fun q => ⟨fun hq => ⟨by
          have h1 := hq.1
          rcases Nat.lt_or_ge q i with h' | h'
          · exact h'
          · obtain rfl : q = i := by omega
            exact absurd e hq.2, hq.2⟩, fun hq => ⟨Nat.lt_succ_of_lt hq.1, hq.2⟩⟩) (fun _ _ => rfl))
      · have hg := tC_gt ha e
        rw [if_neg (fun e' => e ((nI0_iff (by omega)).mp e')), grd_t (bnd_nI (by omega) (by omega)), nx_or, grd_t (bnd_nI (by omega) (by omega)), nI_clamp (by omega), nI_clamp (by omega), mmin_le, hW (a ||| tk D n a i) (by omega)]
        obtain ⟨K, k1, k2, k3, k4⟩ := ih (i + 1) (xu J 70 a (if J 70 a ≤ V (a ||| tk D n a i) + 1 then J 70 a else V (a ||| tk D n a i) + 1)) (by omega) (by omega) (fun j hj => by rw [xu_ne (by decide)]; exact h68 j hj) (fun b hb => by rw [xu_rn hb]; exact hW b hb) (by
          rw [xu_rr]
          exact hv.add (q := i) (fun r => ⟨fun hr => by
            have h1 := hr.1
            by_cases e' : r = i
            · exact Or.inr e'
            · exact Or.inl ⟨by omega, hr.2⟩, fun hr => by
            rcases hr with hr | rfl
            · exact ⟨Nat.lt_succ_of_lt hr.1, hr.2⟩
            · exact ⟨by omega, e⟩⟩))
        exact ⟨K, k1, fun c hc => by rw [k2 c hc, xu_ne hc], k3, k4⟩
theorem ft26 (hD : WD D) (hn : n ≤ 8) : ∀ f p (J : HI), p ≤ 2 ^ n - 1 → p < f → J 1 1 = nI n → (∀ s, s < 8 → J 65 s = nI (blw D s)) → (∀ j, j < 4 → J 68 j = nI (al D j n)) → (∀ a, p ≤ a → a < 2 ^ n → tC D n (J 70) a) → ∃ K, L_Sets_findTimes_26 f (nI p - 1) J = some K ∧ (∀ c, c ≠ 70 → K c = J c) ∧ (∀ a, a < 2 ^ n → tC D n (K 70) a) := by
  have h256 := lt_p2 n (by omega)
  have e6 : (1000000 : Int32).toInt = 1000000 := rfl
  intro f
  induction f with
  | zero => intro p J _ h; omega
  | succ f ih =>
    intro p J hp hf h11 h65 h68 h2
    rw [L_Sets_findTimes_26]
    cases p with
    | zero =>
      rw [if_pos m1_neg]
      exact ⟨J, rfl, fun _ _ => rfl, fun a ha => h2 a (by omega) ha⟩
    | succ p =>
      rw [nI_pred, if_neg (nI_pos (by omega)), sub1, h11, ready_c hD hn (by omega) h65, Option.bind_some, grd_t (bnd_nI (by omega) (by omega)), nI_clamp (by omega)]
      simp only [lt_def]
      obtain ⟨K, k1, k2, k3, k4⟩ := ft52 (V := J 70) (D := D) hn (show p < 2 ^ n by omega) 1000 0 (xu J 70 p 1000000) (by omega) (by omega) (fun j hj => by rw [xu_ne (by decide)]; exact h68 j hj) (fun b hb => by rw [xu_rn hb]) (by
        rw [xu_rr]
        exact ⟨by omega, fun q hq => absurd hq.1 (Nat.not_lt_zero _), Or.inl rfl⟩)
      rw [show (0 : Int32) = nI 0 from rfl, k1, Option.bind_some]
      obtain ⟨M, m1, m2, m3⟩ := ih p K (by omega) (by omega) (by rw [k2 1 (by decide), xu_ne (by decide)]; exact h11) (fun s hs => by rw [k2 65 (by decide), xu_ne (by decide)]; exact h65 s hs) (fun j hj => by rw [k2 68 (by decide), xu_ne (by decide)]; exact h68 j hj) (fun a ha ha2 => by
        by_cases e : a = p
        · subst e
          refine ⟨fun e => by omega, fun _ => k4.c (fun _ => Iff.rfl) (fun j hj => ?_)⟩
          show K 70 (a ||| tk D n a j) + 1 = J 70 (a ||| tk D n a j) + 1
          rw [k3 _ (by have := tC_gt ha2 hj.2; omega)]
        · exact tC_c ha2 (h2 a (by omega) ha2) (k3 a e) (fun b b1 b2 => k3 b (by omega)))
      exact ⟨M, m1, fun c hc => by rw [m2 c hc, k2 c hc, xu_ne hc], m3⟩
theorem times_c (h : Rel B L xs C I) : ∃ K, M_Sets_findTimes C I = some (if (1000000 : Int32) ≤ K 70 0 then 0 else 1, K) ∧ fr [65, 68, 70] I K ∧ (∀ a, a < 2 ^ nS (I 89) → tC (I 89) (nS (I 89)) (K 70) a) ∧ (∀ s, s < 8 → K 65 s = nI (blw (I 89) s)) ∧ (∀ j, j < 4 → K 68 j = nI (al (I 89) j (nS (I 89)))) := by
  have n8 := h.n8
  have h256 := lt_p2 (nS (I 89)) (by omega)
  have hpos := Nat.two_pow_pos (nS (I 89))
  obtain ⟨K, k1, k2, k3⟩ := below_c (J := I) h (fun _ _ => rfl)
  obtain ⟨M, m1, m2, m3⟩ := alike_c (J := K) h (fun c hc => k2 c (by rintro rfl; exact hc (by decide)))
  have m11 : M 1 1 = nI (nS (I 89)) := by rw [m2 1 (by decide), k2 1 (by decide)]; exact st_nI h
  obtain ⟨P, p1, p2, p3⟩ := ft26 (D := I 89) h.2.1 n8 1000 (2 ^ nS (I 89) - 1) (xu M 70 (2 ^ nS (I 89) - 1) 0) (by omega) (by omega) (by rw [xu_ne (by decide)]; exact m11) (fun s hs => by rw [xu_ne (by decide), m2 65 (by decide)]; exact k3 s hs) (fun j hj => by rw [xu_ne (by decide)]; exact m3 j hj) (fun a ha ha2 => by
    obtain rfl : a = 2 ^ nS (I 89) - 1 := by omega
    exact ⟨fun _ => by rw [xu_rr], fun e => absurd rfl e⟩)
  refine ⟨P, ?_, fun c hc => ?_, p3, fun s hs => by rw [p2 65 (by decide), xu_ne (by decide), m2 65 (by decide)]; exact k3 s hs, fun j hj => by rw [p2 68 (by decide), xu_ne (by decide)]; exact m3 j hj⟩
  · unfold M_Sets_findTimes
    simp only [lt_def]
    rw [k1, Option.bind_some, m1, Option.bind_some, all_c n8 m11, grd_t (bnd_nI (by omega) (by omega)), nI_clamp (by omega), p1, Option.bind_some]
    by_cases c : (1000000 : Int32) ≤ P 70 0
    · rw [if_pos c, if_pos c]
    · rw [if_neg c, if_neg c]
  · rw [p2 c (fun e => hc (by simp [e])), xu_ne (fun e => hc (by simp [e])), m2 c (fun e => hc (by simp [e])), k2 c (fun e => hc (by simp [e]))]
theorem alk_c {q : Nat} (hn : n ≤ 8) (hq : q < 2 ^ n) (h68 : ∀ j, j < 4 → K 68 j = nI (al D j n)) : (∃ j, j < 4 ∧ sub q (al D j n)) ∧ M_Sets_areAlike K (nI q) = some 1 ∨ (∀ j, j < 4 → ¬ sub q (al D j n)) ∧ M_Sets_areAlike K (nI q) = some 0 := by
  have h256 := lt_p2 n (by omega)
  have ha : ∀ j, al D j n < 256 := fun j => by have := al_lt (D := D) (n := n) j n (Nat.le_refl _); omega
  have key := srch (fun f i => L_Sets_areAlike_2 (nI q) K f (nI i)) 4 (fun j => sub q (al D j n)) (fun _ => 0) 1 ?_ ?_ ?_ 1000 0 (by omega) (by omega)
  · unfold M_Sets_areAlike
    rcases key with ⟨j, j1, j2, j3, j4, j5⟩ | ⟨j1, j2⟩
    · refine Or.inl ⟨⟨j, j2, j3⟩, ?_⟩
      rw [show L_Sets_areAlike_2 (nI q) K 1000 0 = some 0 from j5, Option.bind_some, if_pos rfl]
    · refine Or.inr ⟨fun j hj => j1 j (by omega) hj, ?_⟩
      rw [show L_Sets_areAlike_2 (nI q) K 1000 0 = some 1 from j2, Option.bind_some, if_neg (by decide)]
  · intro f i hi hp
    show L_Sets_areAlike_2 (nI q) K (f + 1) (nI i) = L_Sets_areAlike_2 (nI q) K f (nI (i + 1))
    rw [L_Sets_areAlike_2, if_neg (c_nle 4 4 hi), grd_t (bnd_nI (by omega) (by omega)), nI_clamp (by omega), h68 i hi, mk_dif (ha i) (by omega), if_neg (fun e => hp ((dif0 (ha i) (by omega)).mp ((nI0_iff (by have := dif_lt (a := al D i n) (show q < 256 by omega); omega)).mp e))), nI_1]
  · intro f i hi hp
    show L_Sets_areAlike_2 (nI q) K (f + 1) (nI i) = some 0
    rw [L_Sets_areAlike_2, if_neg (c_nle 4 4 hi), grd_t (bnd_nI (by omega) (by omega)), nI_clamp (by omega), h68 i hi, mk_dif (ha i) (by omega), if_pos (by rw [(dif0 (ha i) (by omega)).mpr hp]; rfl)]
  · intro f
    show L_Sets_areAlike_2 (nI q) K (f + 1) (nI 4) = some 1
    rw [L_Sets_areAlike_2, if_pos (c_le 4 4 (Nat.le_refl _) (by omega))]
theorem mc_iff (hD : WD D) (hn : n = nS D) {q : Nat} (h1 : 1 ≤ q) (hq : q < 2 ^ n) : mc D n q 0 ↔ sub q (rd D 0 n) ∧ ∃ j, j < 4 ∧ sub q (al D j n) := by
  constructor
  · rintro ⟨m1, m2⟩
    obtain ⟨k, k1, k2⟩ := ne0_ex hq (by omega)
    refine ⟨fun s hs => (rd_t n).mpr ⟨tb_lt hq hs, m1 s (tb_lt hq hs) hs⟩, stf (kd D k), stf_lt (kd_eq (hD.2.2.2.2.1 k (by omega))).2, fun s hs => (al_t _ s n).mpr ⟨tb_lt hq hs, m2 s k (tb_lt hq hs) k1 hs k2⟩⟩
  · rintro ⟨m1, j, m2, m3⟩
    exact ⟨fun s hs ht => ((rd_t n).mp (m1 s ht)).2, fun s t hs ht h1 h2 => by rw [((al_t j s n).mp (m3 s h1)).2, ((al_t j t n).mp (m3 t h2)).2]⟩
theorem first_c (hD : WD D) (hn : n = nS D) (h11 : K 1 1 = nI n) (h65 : ∀ s, s < 8 → K 65 s = nI (blw D s)) (h68 : ∀ j, j < 4 → K 68 j = nI (al D j n)) : (∃ p, 1 ≤ p ∧ p < 2 ^ n ∧ (mc D n p 0 ∧ K 70 p + 1 = K 70 0) ∧ (∀ k, 1 ≤ k → k < p → ¬ (mc D n k 0 ∧ K 70 k + 1 = K 70 0)) ∧ M_Sets_firstTime K = some (nI p)) ∨ (∀ p, 1 ≤ p → p < 2 ^ n → ¬ (mc D n p 0 ∧ K 70 p + 1 = K 70 0)) ∧ M_Sets_firstTime K = some 0 := by
  have n8 : n ≤ 8 := by rw [hn]; exact hD.1.2
  have h256 := lt_p2 n (by omega)
  have hpos := Nat.two_pow_pos n
  have hr := rd_p2 (D := D) (n := n) (a := 0) n (Nat.le_refl _)
  have key := srch (fun f i => L_Sets_firstTime_18 (nI (rd D 0 n)) (nI (2 ^ n - 1)) K f (nI i)) (2 ^ n) (fun p => sub p (rd D 0 n) ∧ K 70 p + 1 = K 70 0 ∧ ∃ j, j < 4 ∧ sub p (al D j n)) (fun i => (0, nI i)) (1, nI (2 ^ n)) ?_ ?_ ?_ 1000 1 (by omega) (by omega)
  · have e0 : M_Sets_readyAfter K 0 (K 1 1) = some (nI (rd D 0 n)) := by rw [h11]; exact ready_c hD n8 (a := 0) (by omega) h65
    unfold M_Sets_firstTime
    rw [e0, Option.bind_some, all_c n8 h11]
    rcases key with ⟨j, j1, j2, j3, j4, j5⟩ | ⟨j1, j2⟩
    · refine Or.inl ⟨j, j1, j2, ⟨(mc_iff hD hn j1 j2).mpr ⟨j3.1, j3.2.2⟩, j3.2.1⟩, fun k k1 k2 hk => ?_, ?_⟩
      · have := (mc_iff hD hn k1 (by omega)).mp hk.1
        exact j4 k k1 k2 ⟨this.1, hk.2, this.2⟩
      · rw [show L_Sets_firstTime_18 (nI (rd D 0 n)) (nI (2 ^ n - 1)) K 1000 1 = some (0, nI j) from j5, Option.bind_some, if_pos rfl]
    · refine Or.inr ⟨fun k k1 k2 hk => ?_, ?_⟩
      · have := (mc_iff hD hn k1 k2).mp hk.1
        exact j1 k k1 k2 ⟨this.1, hk.2, this.2⟩
      · rw [show L_Sets_firstTime_18 (nI (rd D 0 n)) (nI (2 ^ n - 1)) K 1000 1 = some (1, nI (2 ^ n)) from j2, Option.bind_some]; rfl
  · intro f i hi hp
    show L_Sets_firstTime_18 (nI (rd D 0 n)) (nI (2 ^ n - 1)) K (f + 1) (nI i) = L_Sets_firstTime_18 (nI (rd D 0 n)) (nI (2 ^ n - 1)) K f (nI (i + 1))
    rw [L_Sets_firstTime_18, if_neg (nI_nlt (by omega) (by omega)), mk_dif (by omega) (by omega), nI_1]
    by_cases c1 : sub i (rd D 0 n)
    · rw [if_pos (by rw [(dif0 (by omega) (by omega)).mpr c1]; rfl), grd_t (bnd_nI (by omega) (by omega)), nI_clamp (by omega)]
      by_cases c2 : K 70 i + 1 = K 70 0
      · rw [if_pos c2]
        rcases alk_c (D := D) n8 hi h68 with ⟨g1, g2⟩ | ⟨g1, g2⟩
        · exact absurd ⟨c1, c2, g1⟩ hp
        · rw [g2, Option.bind_some, if_pos rfl]
      · rw [if_neg c2]
    · rw [if_neg (fun e => c1 ((dif0 (by omega) (by omega)).mp ((nI0_iff (by have := dif_lt (a := rd D 0 n) (show i < 256 by omega); omega)).mp e)))]
  · intro f i hi hp
    show L_Sets_firstTime_18 (nI (rd D 0 n)) (nI (2 ^ n - 1)) K (f + 1) (nI i) = some (0, nI i)
    obtain ⟨c1, c2, c3⟩ := hp
    rw [L_Sets_firstTime_18, if_neg (nI_nlt (by omega) (by omega)), mk_dif (by omega) (by omega), if_pos (by rw [(dif0 (by omega) (by omega)).mpr c1]; rfl), grd_t (bnd_nI (by omega) (by omega)), nI_clamp (by omega), if_pos c2]
    rcases alk_c (D := D) n8 hi h68 with ⟨g1, g2⟩ | ⟨g1, g2⟩
    · rw [g2, Option.bind_some, if_neg one0]
    · obtain ⟨j, j1, j2⟩ := c3
      exact absurd j2 (g1 j j1)
  · intro f
    show L_Sets_firstTime_18 (nI (rd D 0 n)) (nI (2 ^ n - 1)) K (f + 1) (nI (2 ^ n)) = some (1, nI (2 ^ n))
    rw [L_Sets_firstTime_18, if_pos (nI_lt (by omega) (by omega))]
/-! the reference -/
theorem mcm (hD : WD D) (hn : n = nS D) {q a : Nat} (hq : q < 2 ^ n) (ha : a < 256) (h89 : K 89 = D) (h93 : ∀ s, s < nS D → K 93 s = nI (blw D s)) : ∀ f i x, i ≤ n → n - i < f → ((x = -1 ∧ ∀ s, s < i → q.testBit s = false) ∨ ∃ k, k < i ∧ q.testBit k = true ∧ x = nI (stf (kd D k))) → (∀ s, s < i → q.testBit s = true → may D s a = true) → (∀ s t, s < i → t < i → q.testBit s = true → q.testBit t = true → stf (kd D s) = stf (kd D t)) → (mc D n q a ∧ L_Model_mayCome_5 (nI q) (nI a) K f x (nI i) = some 1) ∨ (¬ mc D n q a ∧ L_Model_mayCome_5 (nI q) (nI a) K f x (nI i) = some 0) := by
  have n8 : n ≤ 8 := by rw [hn]; exact hD.1.2
  have h256 := lt_p2 n (by omega)
  intro f
  induction f with
  | zero => intro i x _ h; omega
  | succ f ih =>
    intro i x hi hf hx h1 h2
    rw [L_Model_mayCome_5, h89, hD.1.1, ← hn]
    by_cases h : n ≤ i
    · have en : n = i := by omega
      rw [if_pos (nI_le h (by omega))]
      refine Or.inl ⟨?_, rfl⟩
      rw [en]
      exact ⟨h1, h2⟩
    · rw [if_neg (nI_ge (by omega) (by omega)), mk_bit q (by omega) i (by omega), nI_1]
      by_cases e : q.testBit i = true
      · have hw : wS D i := hD.2.2.2.2.1 i (by omega)
        have st : M_Model_stuff K (nI i) = some (nI (stf (kd D i))) := by
          have := stuff_m (I := K) (s := i) (by omega) (by rw [h89]; exact hw)
          rw [h89] at this; exact this
        have s4 := stf_lt (kd_eq hw).2
        rw [if_pos e, if_pos rfl, may_m hD (by omega) ha (h93 i (by omega)), Option.bind_some]
        by_cases hm : may D i a = true
        · rw [if_pos hm, if_neg one0, st]
          simp only [Option.bind_some]
          have key := fun (hk : ∀ k, k < i → q.testBit k = true → stf (kd D k) = stf (kd D i)) => ih (i + 1) (nI (stf (kd D i))) (by omega) (by omega) (Or.inr ⟨i, by omega, e, rfl⟩) (fun s hs ht => by
            by_cases es : s = i
            · subst es; exact hm
            · exact h1 s (by omega) ht) (fun s t hs ht q1 q2 => by
            by_cases es : s = i
            · by_cases et : t = i
              · rw [es, et]
              · rw [es]; exact (hk t (by omega) q2).symm
            · by_cases et : t = i
              · rw [et]; exact hk s (by omega) q1
              · exact h2 s t (by omega) (by omega) q1 q2)
          rcases hx with ⟨rfl, hx⟩ | ⟨k, k1, k2, rfl⟩
          · rw [if_pos (by decide)]
            exact key (fun k hk hkk => by rw [hx k hk] at hkk; cases hkk)
          · have sk : stf (kd D k) < 4 := stf_lt (kd_eq (hD.2.2.2.2.1 k (by omega))).2
            rw [if_neg (n_nlt 0 0 (Nat.zero_le _) (by omega))]
            by_cases c : stf (kd D k) = stf (kd D i)
            · rw [if_pos (by rw [c])]
              exact key (fun k' hk hkk => by rw [← c]; exact h2 k' k hk k1 hkk k2)
            · rw [if_neg (fun e' => c ((nI_eq (by omega) (by omega)).mp e'))]
              exact Or.inr ⟨fun hmc => c (hmc.2 k i (by omega) (by omega) k2 e), rfl⟩
        · rw [if_neg hm, if_pos rfl]
          exact Or.inr ⟨fun hmc => hm (hmc.1 i (by omega) e), rfl⟩
      · rw [if_neg e, if_neg (show ¬ (0 : Int32) = 1 by decide)]
        have e' := tb_nt e
        refine ih (i + 1) x (by omega) (by omega) ?_ ?_ ?_
        · rcases hx with ⟨x1, x2⟩ | ⟨k, k1, k2, k3⟩
          · exact Or.inl ⟨x1, fun s hs => by
              by_cases es : s = i
              · subst es; exact e'
              · exact x2 s (by omega)⟩
          · exact Or.inr ⟨k, by omega, k2, k3⟩
        · intro s hs ht
          by_cases es : s = i
          · subst es; exact absurd ht e
          · exact h1 s (by omega) ht
        · intro s t hs ht q1 q2
          by_cases es : s = i
          · subst es; exact absurd q1 e
          · by_cases et : t = i
            · subst et; exact absurd q2 e
            · exact h2 s t (by omega) (by omega) q1 q2
theorem come_m (hD : WD D) (hn : n = nS D) {q a : Nat} (hq : q < 2 ^ n) (ha : a < 256) (h89 : K 89 = D) (h93 : ∀ s, s < nS D → K 93 s = nI (blw D s)) : (mc D n q a ∧ M_Model_mayCome K (nI q) (nI a) = some 1) ∨ (¬ mc D n q a ∧ M_Model_mayCome K (nI q) (nI a) = some 0) := by
  have n8 : n ≤ 8 := by rw [hn]; exact hD.1.2
  unfold M_Model_mayCome
  rcases mcm hD hn hq ha h89 h93 1000 0 (-1) (by omega) (by omega) (Or.inl ⟨rfl, fun s hs => absurd hs (Nat.not_lt_zero _)⟩) (fun s hs => absurd hs (Nat.not_lt_zero _)) (fun s t hs => absurd hs (Nat.not_lt_zero _)) with ⟨g1, g2⟩ | ⟨g1, g2⟩
  · refine Or.inl ⟨g1, ?_⟩
    rw [show L_Model_mayCome_5 (nI q) (nI a) K 1000 (-1) 0 = some 1 from g2, Option.bind_some, if_neg (by decide)]
  · refine Or.inr ⟨g1, ?_⟩
    rw [show L_Model_mayCome_5 (nI q) (nI a) K 1000 (-1) 0 = some 0 from g2, Option.bind_some, if_pos rfl]
theorem sd_gt {a q : Nat} (hn : n ≤ 8) (ha : a < 2 ^ n) (hq : sub q (dif (2 ^ n - 1) a)) (h0 : q ≠ 0) : a < a ||| q ∧ a ||| q < 2 ^ n ∧ q < 2 ^ n := by
  have h256 := lt_p2 n (by omega)
  have hpos := Nat.two_pow_pos n
  have hq2 : q < 2 ^ n := by
    have h1 := sub_iff.mpr hq
    have : q ≤ dif (2 ^ n - 1) a := by rw [← h1]; exact Nat.and_le_right
    have : dif (2 ^ n - 1) a ≤ 2 ^ n - 1 := Nat.and_le_left
    omega
  obtain ⟨k, k1, k2⟩ := ne0_ex hq2 h0
  have := hq k k2
  rw [dif_t (by omega) (by omega), Bool.and_eq_true] at this
  have ak : a.testBit k = false := by
    cases ea : a.testBit k
    · rfl
    · rw [ea] at this; exact absurd this.2 (by decide)
  exact ⟨or_gt2 ak k2, or_lt2 ha hq2, hq2⟩
theorem tM_c {a : Nat} (hn : n ≤ 8) (ha : a < 2 ^ n) (h : tM D n V a) (hv : V' a = V a) (hb : ∀ b, a < b → b < 2 ^ n → V' b = V b) : tM D n V' a := by
  refine ⟨fun e => by rw [hv]; exact h.1 e, fun e => ?_⟩
  rw [hv]
  exact (h.2 e).c (fun _ => Iff.rfl) (fun q hq => by
    have h1 := hq.1
    have := sd_gt hn ha hq.2.1 (by omega)
    show V' (a ||| q) + 1 = V (a ||| q) + 1
    rw [hb _ this.1 this.2.1])
theorem tm59 {a : Nat} {x1 : Int32} (hD : WD D) (hn : n = nS D) (ha : a < 2 ^ n) : ∀ f p (J : HI), p &&& dif (2 ^ n - 1) a = p → p < f → J 89 = D → (∀ s, s < nS D → J 93 s = nI (blw D s)) → (∀ b, b ≠ a → J 96 b = V b) → MinOf (J 96 a) (fun q => (p < q ∧ sub q (dif (2 ^ n - 1) a)) ∧ mc D n q a) (fun q => V (a ||| q) + 1) → ∃ K, L_Model_times_59 x1 (nI (2 ^ n - 1)) (nI a) (nI (dif (2 ^ n - 1) a)) f (nI p) J = some K ∧ (∀ c, c ≠ 96 → K c = J c) ∧ (∀ b, b ≠ a → K 96 b = V b) ∧ MinOf (K 96 a) (fun q => 1 ≤ q ∧ sub q (dif (2 ^ n - 1) a) ∧ mc D n q a) (fun q => V (a ||| q) + 1) := by
  have n8 : n ≤ 8 := by rw [hn]; exact hD.1.2
  have h256 := lt_p2 n (by omega)
  intro f
  induction f with
  | zero => intro p J _ h; omega
  | succ f ih =>
    intro p J hp hf h89 h93 hW hv
    rw [L_Model_times_59]
    by_cases e0 : p = 0
    · subst e0
      rw [if_pos (by decide)]
      exact ⟨J, rfl, fun _ _ => rfl, hW, hv.c (fun q => ⟨fun h => ⟨⟨h.1, h.2.1⟩, h.2.2⟩, fun h => ⟨h.1.1, h.1.2, h.2⟩⟩) (fun _ _ => rfl)⟩
    · obtain ⟨s1, s2, s3⟩ := sd_gt n8 ha (sub_iff.mp hp) e0
      have hr : (p - 1) &&& dif (2 ^ n - 1) a ≤ p - 1 := Nat.and_le_left
      have hset : ∀ q, sub q (dif (2 ^ n - 1) a) → ((p - 1) &&& dif (2 ^ n - 1) a < q ↔ p < q ∨ q = p) := fun q hq => by
        have := sub_next p (dif (2 ^ n - 1) a) q hp (sub_iff.mpr hq)
        constructor
        · intro h
          rcases Nat.lt_or_ge q p with h' | h'
          · have := this h'; omega
          · omega
        · intro h; omega
      rw [if_neg (n_nle 0 0 (by omega) (by omega)), nI_and1 (by omega)]
      rcases come_m (K := J) hD hn s3 (show a < 256 by omega) h89 h93 with ⟨g1, g2⟩ | ⟨g1, g2⟩
      · rw [g2, Option.bind_some, if_neg one0, nx_or, grd_t (bnd_nI (by omega) (by omega)), grd_t (bnd_nI (by omega) (by omega)), nI_clamp (show a < 2 ^ 31 by omega), nI_clamp (show a ||| p < 2 ^ 31 by omega), hW (a ||| p) (by omega)]
        simp only [lt_def]
        have step : ∀ v, v = (if J 96 a ≤ V (a ||| p) + 1 then J 96 a else V (a ||| p) + 1) → ∃ K, L_Model_times_59 x1 (nI (2 ^ n - 1)) (nI a) (nI (dif (2 ^ n - 1) a)) f (nI ((p - 1) &&& dif (2 ^ n - 1) a)) (xu J 96 a v) = some K ∧ (∀ c, c ≠ 96 → K c = J c) ∧ (∀ b, b ≠ a → K 96 b = V b) ∧ MinOf (K 96 a) (fun q => 1 ≤ q ∧ sub q (dif (2 ^ n - 1) a) ∧ mc D n q a) (fun q => V (a ||| q) + 1) := by
          intro v hv'
          obtain ⟨K, k1, k2, k3, k4⟩ := ih ((p - 1) &&& dif (2 ^ n - 1) a) (xu J 96 a v) (sub_and _ _) (by omega) (by rw [xu_ne (by decide)]; exact h89) (fun s hs => by rw [xu_ne (by decide)]; exact h93 s hs) (fun b hb => by rw [xu_rn hb]; exact hW b hb) (by
            rw [xu_rr, hv']
            refine hv.add (q := p) (fun r => ⟨fun hr => ?_, fun hr => ?_⟩)
            · rcases (hset r hr.1.2).mp hr.1.1 with h' | h'
              · exact Or.inl ⟨⟨h', hr.1.2⟩, hr.2⟩
              · exact Or.inr h'
            · rcases hr with hr | rfl
              · exact ⟨⟨(hset r hr.1.2).mpr (Or.inl hr.1.1), hr.1.2⟩, hr.2⟩
              · exact ⟨⟨(hset r (sub_iff.mp hp)).mpr (Or.inr rfl), sub_iff.mp hp⟩, g1⟩)
          exact ⟨K, k1, fun c hc => by rw [k2 c hc, xu_ne hc], k3, k4⟩
        by_cases c : J 96 a ≤ V (a ||| p) + 1
        · rw [if_pos c]; exact step _ (by rw [if_pos c])
        · rw [if_neg c]; exact step _ (by rw [if_neg c])
      · rw [g2, Option.bind_some, if_pos rfl]
        exact ih ((p - 1) &&& dif (2 ^ n - 1) a) J (sub_and _ _) (by omega) h89 h93 hW (hv.c (fun q => ⟨fun h => by
          rcases (hset q h.1.2).mp h.1.1 with h' | h'
          · exact ⟨⟨h', h.1.2⟩, h.2⟩
          · rw [h'] at h
            exact absurd h.2 g1, fun h => ⟨⟨(hset q h.1.2).mpr (Or.inl h.1.1), h.1.2⟩, h.2⟩⟩) (fun _ _ => rfl))
theorem tm36 {x1 : Int32} (hD : WD D) (hn : n = nS D) : ∀ f p (J : HI), p ≤ 2 ^ n - 1 → p < f → J 89 = D → (∀ s, s < nS D → J 93 s = nI (blw D s)) → (∀ a, p ≤ a → a < 2 ^ n → tM D n (J 96) a) → ∃ K, L_Model_times_36 x1 (nI (2 ^ n - 1)) f (nI p - 1) J = some K ∧ (∀ c, c ≠ 96 → K c = J c) ∧ (∀ a, a < 2 ^ n → tM D n (K 96) a) := by
  have n8 : n ≤ 8 := by rw [hn]; exact hD.1.2
  have h256 := lt_p2 n (by omega)
  have e6 : (1000000 : Int32).toInt = 1000000 := rfl
  intro f
  induction f with
  | zero => intro p J _ h; omega
  | succ f ih =>
    intro p J hp hf h89 h93 h2
    rw [L_Model_times_36]
    cases p with
    | zero =>
      rw [if_pos m1_neg]
      exact ⟨J, rfl, fun _ _ => rfl, fun a ha => h2 a (by omega) ha⟩
    | succ p =>
      have hd : dif (2 ^ n - 1) p ≤ 2 ^ n - 1 := Nat.and_le_left
      rw [nI_pred, if_neg (nI_pos (by omega)), sub1, grd_t (bnd_nI (by omega) (by omega)), nI_clamp (by omega), mk_dif (by omega) (by omega)]
      simp only [lt_def]
      obtain ⟨K, k1, k2, k3, k4⟩ := tm59 (V := J 96) (x1 := x1) hD hn (show p < 2 ^ n by omega) 1000 (dif (2 ^ n - 1) p) (xu J 96 p 1000000) (Nat.and_self _) (by omega) (by rw [xu_ne (by decide)]; exact h89) (fun s hs => by rw [xu_ne (by decide)]; exact h93 s hs) (fun b hb => by rw [xu_rn hb]) (by
        rw [xu_rr]
        exact ⟨by omega, fun q hq => by
          exfalso
          have h1 := hq.1.1
          have h3 := sub_iff.mpr hq.1.2
          have : q ≤ dif (2 ^ n - 1) p := by rw [← h3]; exact Nat.and_le_right
          omega, Or.inl rfl⟩)
      rw [k1, Option.bind_some]
      obtain ⟨M, m1, m2, m3⟩ := ih p K (by omega) (by omega) (by rw [k2 89 (by decide), xu_ne (by decide)]; exact h89) (fun s hs => by rw [k2 93 (by decide), xu_ne (by decide)]; exact h93 s hs) (fun a ha ha2 => by
        by_cases e : a = p
        · subst e
          refine ⟨fun e => by omega, fun _ => k4.c (fun _ => Iff.rfl) (fun q hq => ?_)⟩
          have h1 := hq.1
          show K 96 (a ||| q) + 1 = J 96 (a ||| q) + 1
          rw [k3 _ (by have := sd_gt n8 ha2 hq.2.1 (by omega); omega)]
        · exact tM_c n8 ha2 (h2 a (by omega) ha2) (k3 a e) (fun b b1 b2 => k3 b (by omega)))
      exact ⟨M, m1, fun c hc => by rw [m2 c hc, k2 c hc, xu_ne hc], m3⟩
theorem tm165 {x1 : Int32} {j : Nat} (hD : WD D) (hn : n = nS D) (hj : j < 2 ^ n) (hP : mc D n j 0 ∧ V j + 1 = V 0) (h89 : K 89 = D) (h93 : ∀ s, s < nS D → K 93 s = nI (blw D s)) (hV : ∀ b, b < 2 ^ n → K 96 b = V b) : ∀ f i, 1 ≤ i → i ≤ j → j - i < f → (∀ k, i ≤ k → k < j → ¬ (mc D n k 0 ∧ V k + 1 = V 0)) → L_Model_times_165 x1 K f (nI i) = some (nI j) := by
  have n8 : n ≤ 8 := by rw [hn]; exact hD.1.2
  have h256 := lt_p2 n (by omega)
  have hpos := Nat.two_pow_pos n
  intro f
  induction f with
  | zero => intro i _ _ h; omega
  | succ f ih =>
    intro i i1 hi hf hnn
    rw [L_Model_times_165, if_neg (n_nle 0 0 (by omega) (by omega)), nI_1]
    rcases come_m (K := K) (a := 0) hD hn (show i < 2 ^ n by omega) (by omega) h89 h93 with ⟨g1, g2⟩ | ⟨g1, g2⟩
    · rw [show M_Model_mayCome K (nI i) 0 = some 1 from g2, Option.bind_some, if_neg one0, grd_t (bnd_nI (by omega) (by omega)), nI_clamp (by omega), hV i (by omega), hV 0 hpos]
      by_cases c : V i + 1 = V 0
      · have hij : i = j := by
          rcases Nat.lt_or_ge i j with h | h
          · exact absurd ⟨g1, c⟩ (hnn i (Nat.le_refl _) h)
          · omega
        rw [if_pos c, hij]
      · have hij : i ≠ j := by rintro rfl; exact c hP.2
        rw [if_neg c]
        exact ih (i + 1) (by omega) (by omega) (by omega) (fun k k1 k2 => hnn k (by omega) k2)
    · have hij : i ≠ j := by rintro rfl; exact g1 hP.1
      rw [show M_Model_mayCome K (nI i) 0 = some 0 from g2, Option.bind_some, if_pos rfl]
      exact ih (i + 1) (by omega) (by omega) (by omega) (fun k k1 k2 => hnn k (by omega) k2)
theorem times_m {x1 : Int32} (hD : WD D) (h89 : J 89 = D) : ∃ M K, M_Model_findBelow J = some M ∧ M 89 = D ∧ L_Model_times_36 x1 (nI (2 ^ nS D - 1)) 1000 (nI (2 ^ nS D - 1) - 1) (xu M 96 (2 ^ nS D - 1) 0) = some K ∧ fr [93, 96] J K ∧ (∀ s, s < nS D → K 93 s = nI (blw D s)) ∧ (∀ a, a < 2 ^ nS D → tM D (nS D) (K 96) a) := by
  subst h89
  have n8 := hD.1.2
  have h256 := lt_p2 (nS (J 89)) (by omega)
  have hpos := Nat.two_pow_pos (nS (J 89))
  obtain ⟨M, m1, m2, m3⟩ := below_m hD
  obtain ⟨K, k1, k2, k3⟩ := tm36 (x1 := x1) hD rfl 1000 (2 ^ nS (J 89) - 1) (xu M 96 (2 ^ nS (J 89) - 1) 0) (by omega) (by omega) (by rw [xu_ne (by decide)]; exact m2 89 (by decide)) (fun s hs => by rw [xu_ne (by decide)]; exact m3 s hs) (fun a ha ha2 => by
    obtain rfl : a = 2 ^ nS (J 89) - 1 := by omega
    exact ⟨fun _ => by rw [xu_rr], fun e => absurd rfl e⟩)
  exact ⟨M, K, m1, m2 89 (by decide), k1, fun c hc => by rw [k2 c (fun e => hc (by simp [e])), xu_ne (fun e => hc (by simp [e])), m2 c (fun e => hc (by simp [e]))], fun s hs => by rw [k2 93 (by decide), xu_ne (by decide)]; exact m3 s hs, k3⟩
theorem ok_times (h : Rel B L xs C I) (x : Int32) : OK1 B L xs C (M_H_times C I x) (fun J => M_Model_times J x) := by
  have n8 := h.n8
  have h256 := lt_p2 (nS (I 89)) (by omega)
  have hpos := Nat.two_pow_pos (nS (I 89))
  unfold M_H_times M_Model_times
  simp only [bsome, in_nat x (a := 0) (b := 1) (by decide) (by decide), within_eq]
  by_cases hx : ((0 : Nat) : Int) ≤ x.toInt ∧ x.toInt ≤ ((1 : Nat) : Int)
  · have hx' : 0 ≤ x.toInt ∧ x.toInt ≤ (1 : Int32).toInt := hx
    simp only [if_pos hx, if_pos hx', if_neg one0, lt_def]
    obtain ⟨J, j1, j2, j3, j4, j5⟩ := times_c h
    have hM := C_to_M h.2.1 rfl j3
    rw [j1, Option.bind_some]
    simp only []
    by_cases c : (1000000 : Int32) ≤ J 70 0
    · rw [if_pos c, if_pos rfl]
      have hR : Rel B L xs C J := h.fr j2 (by decide) (by rw [j2 88 (by decide)]) (by rw [j2 88 (by decide)])
      obtain ⟨M, K, m1, m2, k1, k2, k3, k4⟩ := times_m (x1 := x) (J := xu J 87 2 (J 87 2 + 1)) h.2.1 (by rw [xu_ne (by decide)]; exact j2 89 (by decide))
      have e0 := M_uni n8 k4 hM _ 0 (Nat.le_refl _) hpos
      refine err_ok 2 (by decide) (by decide) hR (W := [93, 96]) rfl ⟨K, k2, by decide, by rw [k2 88 (by decide), xu_qn (by decide)], by rw [k2 88 (by decide), xu_qn (by decide)], ?_⟩
      show Option.bind (M_Model_findBelow _) _ = _
      rw [m1, Option.bind_some, all_m h.2.1 m2, grd_t (bnd_nI (by omega) (by omega)), nI_clamp (by omega), k1, Option.bind_some, if_neg (by rw [e0, i_lt]; rw [i_le] at c; omega)]
      rfl
    · rw [if_neg c, if_neg one0]
      obtain ⟨M, K, m1, m2, k1, k2, k3, k4⟩ := times_m (x1 := x) (J := J) h.2.1 (j2 89 (by decide))
      have hV : ∀ b, b < 2 ^ nS (I 89) → K 96 b = J 70 b := fun b hb => M_uni n8 k4 hM _ b (Nat.le_refl _) hb
      have e0 := hV 0 hpos
      have k89 : K 89 = I 89 := by rw [k2 89 (by decide)]; exact j2 89 (by decide)
      have clt : K 96 0 < 1000000 := by rw [e0, i_lt]; rw [i_le] at c; omega
      have j11 : J 1 1 = nI (nS (I 89)) := by rw [j2 1 (by decide)]; exact st_nI h
      have hfin : ∃ p, p < 2 ^ nS (I 89) ∧ M_Sets_firstTime J = some (nI p) ∧ (if nI (2 ^ nS (I 89) - 1) = 0 then L_Model_times_165 x K 1000 0 else L_Model_times_165 x K 1000 1) = some (nI p) := by
        rcases first_c (K := J) h.2.1 rfl j11 j4 j5 with ⟨p, p1, p2, p3, p4, p5⟩ | ⟨p1, p2⟩
        · refine ⟨p, p2, p5, ?_⟩
          rw [if_neg (fun e => by have := (nI0_iff (by omega)).mp e; omega)]
          exact tm165 (V := J 70) h.2.1 rfl p2 p3 k89 k3 hV 1000 1 (by omega) p1 (by omega) (fun k q1 q2 => p4 k q1 q2)
        · by_cases en : 2 ^ nS (I 89) - 1 = 0
          · refine ⟨0, hpos, p2, ?_⟩
            rw [en, show nI 0 = (0 : Int32) from rfl, if_pos rfl, L_Model_times_165, if_pos (by decide)]
          · exfalso
            rcases ((hM 0 hpos).2 (by omega)).2.2 with e | ⟨q, ⟨q1, q2, q3⟩, q4⟩
            · exact c (by rw [e]; decide)
            · have q4 : J 70 0 = J 70 q + 1 := by
                have h' := q4
                simp only [Nat.zero_or] at h'
                exact h'
              exact p1 q q1 (sd_gt n8 hpos q2 (by omega)).2.2 ⟨q3, q4.symm⟩
      obtain ⟨p, p1, p2, p3⟩ := hfin
      have hm : ∀ v, v = (if x = 0 then J 70 0 else nI p) → (Option.bind (M_Model_findBelow J) fun p3 => grd (bnd (M_Model_allStrokes p3) 256) (Option.bind (L_Model_times_36 x (M_Model_allStrokes p3) 1000 ((M_Model_allStrokes p3) - (1 : Int32)) (xu p3 96 (M_Model_allStrokes p3).toNatClampNeg (0 : Int32))) fun p6 => if (p6 96 0) < (1000000 : Int32) then (if (M_Model_allStrokes p3) = (0 : Int32) then (Option.bind (L_Model_times_165 x p6 1000 (0 : Int32)) fun p9 => if x = (0 : Int32) then (some ((p6 96 0), p6)) else (some (p9, p6))) else (Option.bind (L_Model_times_165 x p6 1000 (1 : Int32)) fun p11 => if x = (0 : Int32) then (some ((p6 96 0), p6)) else (some (p11, p6)))) else M_Model_finds p6 (2 : Int32))) = some (v, K) := by
        intro v hv
        rw [m1, Option.bind_some, all_m h.2.1 m2, grd_t (bnd_nI (by omega) (by omega)), nI_clamp (by omega), k1, Option.bind_some, if_pos clt]
        by_cases en : nI (2 ^ nS (I 89) - 1) = 0
        · rw [if_pos en] at p3
          rw [if_pos en, p3, Option.bind_some, e0, hv]
          by_cases ex : x = 0
          · rw [if_pos ex, if_pos ex]
          · rw [if_neg ex, if_neg ex]
        · rw [if_neg en] at p3
          rw [if_neg en, p3, Option.bind_some, e0, hv]
          by_cases ex : x = 0
          · rw [if_pos ex, if_pos ex]
          · rw [if_neg ex, if_neg ex]
      refine ok_val h (v := if x = 0 then J 70 0 else nI p) (J := J) (K := K) (W := [65, 68, 70]) (W' := [93, 96]) ?_ j2 (by decide) (by decide) (hm _ rfl) k2 (by decide) (by rw [k2 88 (by decide)]) (by rw [k2 88 (by decide)])
      by_cases ex : x = 0
      · rw [if_pos ex, if_pos ex]; rfl
      · rw [if_neg ex, if_neg ex, p2, Option.bind_some]
  · have hx' : ¬ (0 ≤ x.toInt ∧ x.toInt ≤ (1 : Int32).toInt) := hx
    simp only [if_neg hx, if_neg hx', if_pos rfl]
    exact err_ok0 1 (by decide) (by decide) h rfl rfl
end TJ
