/-! beasts: class and reference -/
section JN
variable {B L : Nat} {xs : Nat → Int32} {C : HC} {I J K : HI} {D W V : Nat → Int32} {n : Nat}
/-- the row of beasts -/
def BR (D : Nat → Int32) (f : Nat → Int32) (b : Nat) : Prop := (bst D b ∧ f b = 1) ∨ (¬ bst D b ∧ f b = 0)
theorem fb19 (h : Rel B L xs C I) {s : Nat} (hs : s < nS (I 89)) : ∀ f t (J : HI), t ≤ nS (I 89) → nS (I 89) - t < f → (∀ c, c ∉ SCR → J c = I c) → J 66 s = nI (fdl (I 89) s t) → ∃ K, L_Sets_findBeasts_19 C (nI s) f (nI t) J = some K ∧ (∀ c, c ≠ 66 → K c = J c) ∧ (∀ k, k ≠ s → K 66 k = J 66 k) ∧ K 66 s = nI (fdl (I 89) s (nS (I 89))) := by
  have n8 := h.n8
  have h256 := lt_p2 (nS (I 89)) (by omega)
  intro f
  induction f with
  | zero => intro t J _ h; omega
  | succ f ih =>
    intro t J ht hf hJ h66
    rw [L_Sets_findBeasts_19, hJ 1 (by decide), st_nI h]
    by_cases hl : nS (I 89) ≤ t
    · rw [if_pos (nI_le hl (by omega))]
      obtain rfl : t = nS (I 89) := by omega
      exact ⟨J, rfl, fun _ _ => rfl, fun _ _ => rfl, h66⟩
    · have hlt := fdl_lt (D := I 89) (n := nS (I 89)) s t (by omega)
      have hfs := fdl_s (D := I 89) s t
      rw [if_neg (nI_ge (by omega) (by omega)), nI_1]
      by_cases e : s = t
      · rw [if_pos (by rw [e])]
        rw [if_neg (fun c => c.1 e)] at hfs
        exact ih (t + 1) J (by omega) (by omega) hJ (by rw [hfs]; exact h66)
      · rw [if_neg (fun e' => e ((nI_eq (by omega) (by omega)).mp e')), twoJoin_c h hs (by omega) hJ, Option.bind_some]
        by_cases ej : jnd (I 89) s t = true
        · rw [if_pos ej, if_neg one0, grd_t (bnd_nI (by omega) (by omega)), nI_clamp (by omega), h66, mk_set _ (by omega) _ (by omega)]
          rw [if_pos ⟨e, ej⟩] at hfs
          obtain ⟨K, k1, k2, k3, k4⟩ := ih (t + 1) (xu J 66 s (nI (fdl (I 89) s t ||| 2 ^ t))) (by omega) (by omega) (fun c hc => by rw [xu_ne (by rintro rfl; exact hc (by decide))]; exact hJ c hc) (by rw [xu_rr, hfs])
          exact ⟨K, k1, fun c hc => by rw [k2 c hc, xu_ne hc], fun k hk => by rw [k3 k hk, xu_rn hk], k4⟩
        · rw [if_neg ej, if_pos rfl]
          rw [if_neg (fun c => ej c.2)] at hfs
          exact ih (t + 1) J (by omega) (by omega) hJ (by rw [hfs]; exact h66)
theorem fb2 (h : Rel B L xs C I) : ∀ f s (J : HI), s ≤ nS (I 89) → nS (I 89) - s < f → (∀ c, c ∉ SCR → J c = I c) → (∀ k, k < s → J 66 k = nI (fdl (I 89) k (nS (I 89)))) → ∃ K, L_Sets_findBeasts_2 C f (nI s) J = some K ∧ (∀ c, c ≠ 66 → K c = J c) ∧ (∀ k, k < nS (I 89) → K 66 k = nI (fdl (I 89) k (nS (I 89)))) := by
  have n8 := h.n8
  intro f
  induction f with
  | zero => intro t J _ h; omega
  | succ f ih =>
    intro s J hs hf hJ h66
    rw [L_Sets_findBeasts_2, hJ 1 (by decide), st_nI h]
    by_cases hl : nS (I 89) ≤ s
    · rw [if_pos (nI_le hl (by omega))]
      exact ⟨J, rfl, fun _ _ => rfl, fun k hk => h66 k (by omega)⟩
    · rw [if_neg (nI_ge (by omega) (by omega)), nI_1, grd_t (bnd_nI (by omega) (by omega)), nI_clamp (by omega)]
      simp only [lt_def]
      obtain ⟨K, k1, k2, k3, k4⟩ := fb19 h (s := s) (by omega) 1000 0 (xu J 66 s 0) (by omega) (by omega) (fun c hc => by rw [xu_ne (by rintro rfl; exact hc (by decide))]; exact hJ c hc) (by rw [xu_rr]; rfl)
      rw [show L_Sets_findBeasts_19 C (nI s) 1000 0 (xu J 66 s 0) = some K from k1, Option.bind_some]
      obtain ⟨M, m1, m2, m3⟩ := ih (s + 1) K (by omega) (by omega) (fun c hc => by rw [k2 c (by rintro rfl; exact hc (by decide)), xu_ne (by rintro rfl; exact hc (by decide))]; exact hJ c hc) (fun k hk => by
        by_cases e : k = s
        · subst e; exact k4
        · rw [k3 k e, xu_rn e]; exact h66 k (by omega))
      exact ⟨M, m1, fun c hc => by rw [m2 c hc, k2 c hc, xu_ne hc], m3⟩
theorem low_c {q : Nat} (hq : q < 256) (h1 : 1 ≤ q) : M_Sets_lowestOf J (nI q) = some (nI (lw q)) := by
  obtain ⟨l1, l2⟩ := lw_a q hq h1
  have l3 := lw_b q hq h1
  have key := srch (fun f i => L_Sets_lowestOf_2 (nI q) J f (nI i)) 8 (fun j => q.testBit j = true) (fun j => (0, nI j)) (1, nI 8) ?_ ?_ ?_ 1000 0 (by omega) (by omega)
  · unfold M_Sets_lowestOf
    rcases key with ⟨j, j1, j2, j3, j4, j5⟩ | ⟨j1, j2⟩
    · have : j = lw q := by
        rcases Nat.lt_trichotomy j (lw q) with h | h | h
        · rw [l3 j h] at j3; cases j3
        · exact h
        · exact absurd l2 (j4 _ (by omega) h)
      rw [show L_Sets_lowestOf_2 (nI q) J 1000 0 = some (0, nI j) from j5, Option.bind_some, if_pos rfl, this]
    · exact absurd l2 (j1 _ (by omega) l1)
  · intro f i hi hp
    show L_Sets_lowestOf_2 (nI q) J (f + 1) (nI i) = L_Sets_lowestOf_2 (nI q) J f (nI (i + 1))
    rw [L_Sets_lowestOf_2, if_neg (c_nle 8 8 hi), has_eq hq hi, if_neg hp, if_pos rfl, nI_1]
  · intro f i hi hp
    show L_Sets_lowestOf_2 (nI q) J (f + 1) (nI i) = some (0, nI i)
    rw [L_Sets_lowestOf_2, if_neg (c_nle 8 8 hi), has_eq hq hi, if_pos hp, if_neg one0]
  · intro f
    show L_Sets_lowestOf_2 (nI q) J (f + 1) (nI 8) = some (1, nI 8)
    rw [L_Sets_lowestOf_2, if_pos (c_le 8 8 (Nat.le_refl _) (by omega))]
theorem fb79 (hD : WD D) (hn : n = nS D) : ∀ f q (J : HI), 1 ≤ q → q ≤ 2 ^ n → 2 ^ n - q < f → (∀ s, s < n → J 66 s = nI (fdl D s n)) → (∀ b, b < q → BR D (J 71) b) → ∃ K, L_Sets_findBeasts_79 (nI (2 ^ n - 1)) f (nI q) J = some K ∧ (∀ c, c ≠ 71 → K c = J c) ∧ (∀ b, b < 2 ^ n → BR D (K 71) b) := by
  have n8 : n ≤ 8 := by rw [hn]; exact hD.1.2
  have h256 := lt_p2 n (by omega)
  have hpos := Nat.two_pow_pos n
  intro f
  induction f with
  | zero => intro q J _ _ h; omega
  | succ f ih =>
    intro q J q1 hq hf h66 hB
    rw [L_Sets_findBeasts_79]
    by_cases h : 2 ^ n ≤ q
    · rw [if_pos (nI_lt (by omega) (by omega))]
      exact ⟨J, rfl, fun _ _ => rfl, fun b hb => hB b (by omega)⟩
    · obtain ⟨l1, l2⟩ := lw_a q (by omega) q1
      have ln := tb_lt (show q < 2 ^ n by omega) l2
      obtain ⟨e1, e2, e3⟩ := dif_low (show q < 256 by omega) q1
      have hfl := fdl_lt (D := D) (n := n) (lw q) n (Nat.le_refl _)
      have hbl := bst_low hD hn (show q < 2 ^ n by omega) q1
      rw [if_neg (nI_nlt (by omega) (by omega)), lw_d q (by omega) q1, grd_t (bnd_nI (by omega) (by omega)), nI_clamp (show dif q (2 ^ lw q) < 2 ^ 31 by omega), nI_1]
      have step : ∀ v, (bst D q ∧ v = 1) ∨ (¬ bst D q ∧ v = 0) → ∃ K, L_Sets_findBeasts_79 (nI (2 ^ n - 1)) f (nI (q + 1)) (xu J 71 q v) = some K ∧ (∀ c, c ≠ 71 → K c = J c) ∧ (∀ b, b < 2 ^ n → BR D (K 71) b) := by
        intro v hv
        obtain ⟨K, k1, k2, k3⟩ := ih (q + 1) (xu J 71 q v) (by omega) (by omega) (by omega) (fun s hs => by rw [xu_ne (by decide)]; exact h66 s hs) (fun b hb => by
          by_cases e : b = q
          · subst e
            unfold BR
            rw [xu_rr]; exact hv
          · unfold BR
            rw [xu_rn e]; exact hB b (by omega))
        exact ⟨K, k1, fun c hc => by rw [k2 c hc, xu_ne hc], k3⟩
      rcases hB (dif q (2 ^ lw q)) (by omega) with ⟨b1, b2⟩ | ⟨b1, b2⟩
      · rw [if_neg (by rw [b2]; decide), low_c (by omega) q1, Option.bind_some, grd_t (bnd_nI (by omega) (by omega)), nI_clamp (show lw q < 2 ^ 31 by omega), h66 _ ln, mk_dif (by omega) (by omega)]
        have d256 := dif_lt (a := fdl D (lw q) n) (show dif q (2 ^ lw q) < 256 by omega)
        by_cases c : sub (dif q (2 ^ lw q)) (fdl D (lw q) n)
        · rw [if_pos (by rw [(dif0 (by omega) (by omega)).mpr c]; rfl), grd_t (bnd_nI (by omega) (by omega)), nI_clamp (by omega)]
          simp only [lt_def]
          exact step 1 (Or.inl ⟨hbl.mpr ⟨b1, c⟩, rfl⟩)
        · rw [if_neg (fun e => c ((dif0 (by omega) (by omega)).mp ((nI0_iff (by omega)).mp e))), grd_t (bnd_nI (by omega) (by omega)), nI_clamp (by omega)]
          simp only [lt_def]
          exact step 0 (Or.inr ⟨fun hb => c (hbl.mp hb).2, rfl⟩)
      · rw [if_pos b2, grd_t (bnd_nI (by omega) (by omega)), nI_clamp (by omega)]
        simp only [lt_def]
        exact step 0 (Or.inr ⟨fun hb => b1 (hbl.mp hb).1, rfl⟩)
theorem beasts_c (h : Rel B L xs C I) : ∃ K, M_Sets_findBeasts C I = some K ∧ (∀ c, c ≠ 66 → c ≠ 71 → K c = I c) ∧ (∀ k, k < nS (I 89) → K 66 k = nI (fdl (I 89) k (nS (I 89)))) ∧ (∀ b, b < 2 ^ nS (I 89) → BR (I 89) (K 71) b) := by
  have n8 := h.n8
  have h256 := lt_p2 (nS (I 89)) (by omega)
  have hpos := Nat.two_pow_pos (nS (I 89))
  obtain ⟨K, k1, k2, k3⟩ := fb2 h 1000 0 I (by omega) (by omega) (fun _ _ => rfl) (fun k hk => by omega)
  have k11 : K 1 1 = nI (nS (I 89)) := by rw [k2 1 (by decide)]; exact st_nI h
  obtain ⟨M, m1, m2, m3⟩ := fb79 (D := I 89) h.2.1 rfl 1000 1 (xu K 71 0 1) (by omega) (by omega) (by omega) (fun s hs => by rw [xu_ne (by decide)]; exact k3 s hs) (fun b hb => by
    obtain rfl : b = 0 := by omega
    exact Or.inl ⟨fun s t _ hs => (by rw [Nat.zero_testBit] at hs; cases hs), by rw [xu_rr]⟩)
  refine ⟨M, ?_, fun c c1 c2 => by rw [m2 c c2, xu_ne c2, k2 c c1], fun k hk => by rw [m2 66 (by decide), xu_ne (by decide)]; exact k3 k hk, m3⟩
  unfold M_Sets_findBeasts
  simp only [lt_def]
  rw [show L_Sets_findBeasts_2 C 1000 0 I = some K from k1, Option.bind_some, all_c n8 k11, show L_Sets_findBeasts_79 (nI (2 ^ nS (I 89) - 1)) 1000 1 (xu K 71 0 1) = some M from m1, Option.bind_some]
theorem cn_1 (m : Nat) : cn m 1 = 1 := by
  rw [cn_s, if_pos (Nat.zero_and m)]; rfl
theorem cn_next {p m : Nat} (hp : p &&& m = p) (h1 : 1 ≤ p) : cn m (p + 1) = cn m (((p - 1) &&& m) + 1) + 1 := by
  have hle : (p - 1) &&& m ≤ p - 1 := Nat.and_le_left
  rw [cn_s, if_pos hp]
  congr 1
  have := cn_skip m (p - (((p - 1) &&& m) + 1)) (((p - 1) &&& m) + 1) (fun q h1 h2 h3 => by
    have := sub_next p m q hp h3 (by omega)
    omega)
  rw [show ((p - 1) &&& m) + 1 + (p - (((p - 1) &&& m) + 1)) = p by omega] at this
  exact this
theorem sgC_next {g : Nat → Int32} {p m : Nat} (hp : p &&& m = p) (h1 : 1 ≤ p) (hg : ∀ q, ¬ sub q m → g q = 0) : sg g (p + 1) = sg g (((p - 1) &&& m) + 1) + g p := by
  have hle : (p - 1) &&& m ≤ p - 1 := Nat.and_le_left
  rw [sg_s, sg_skip (a := ((p - 1) &&& m) + 1) (b := p) (by omega) (fun q h1 h2 => hg q (fun h3 => by
    have := sub_next p m q hp (sub_iff.mpr h3) h2
    omega))]
theorem set_next {p m : Nat} (hp : p &&& m = p) (h1 : 1 ≤ p) (q : Nat) (hq : sub q m) : (p - 1) &&& m < q ↔ p < q ∨ q = p := by
  have hr : (p - 1) &&& m ≤ p - 1 := Nat.and_le_left
  have := sub_next p m q hp (sub_iff.mpr hq)
  constructor
  · intro h
    rcases Nat.lt_or_ge q p with h' | h'
    · have := this h'; omega
    · omega
  · intro h; omega
theorem gC_no {m q : Nat} (h : ¬ sub q (m &&& fdl D (lw m) n)) : gC D W n m q = 0 := by
  unfold gC
  rw [if_neg (fun e => h e.1)]
theorem gR_no {m q : Nat} (h : ¬ sub q m) : gR D W m q = 0 := by
  unfold gR
  rw [if_neg (fun e => h e.1)]
theorem dC_lt {m q : Nat} (hm : m < 256) (h1 : 1 ≤ m) (hq : q < 256) : dif m (q ||| 2 ^ lw m) < m := by
  obtain ⟨l1, l2⟩ := lw_a m hm h1
  exact dif_lt2 (l := lw m) hm (mk_or1 hq l1) l2 (by rw [tb_set]; simp)
theorem fj76 {m : Nat} {x2 T : Int32} (hm : m < 256) (hm1 : 1 ≤ m) (hX : fdl D (lw m) n < 256) (hN : ∀ q, sub q (m &&& fdl D (lw m) n) → q < 2 ^ n) : ∀ f p (J : HI), p &&& (m &&& fdl D (lw m) n) = p → cn (m &&& fdl D (lw m) n) (p + 1) < f → (∀ b, b < 2 ^ n → BR D (J 71) b) → (∀ b, b ≠ m → J 69 b = W b ∧ J 70 b = V b) → J 69 m + sg (gC D W n m) (p + 1) = T → MinOf (J 70 m) (fun q => (p < q ∧ sub q (m &&& fdl D (lw m) n)) ∧ bst D q) (fun q => V (dif m (q ||| 2 ^ lw m)) + 1) → ∃ K, L_Sets_findJoinings_76 x2 (nI m) (nI (lw m)) (nI (m &&& fdl D (lw m) n)) f (nI p) (nI (cn (m &&& fdl D (lw m) n) (p + 1))) J = some K ∧ (∀ c, c ≠ 69 → c ≠ 70 → K c = J c) ∧ (∀ b, b ≠ m → K 69 b = W b ∧ K 70 b = V b) ∧ K 69 m = T ∧ MinOf (K 70 m) (fun q => sub q (m &&& fdl D (lw m) n) ∧ bst D q) (fun q => V (dif m (q ||| 2 ^ lw m)) + 1) := by
  obtain ⟨l1, l2⟩ := lw_a m hm hm1
  intro f
  induction f with
  | zero => intro p J _ h; omega
  | succ f ih =>
    intro p J hp hf hB hW hT hV
    have hpm : p ≤ m &&& fdl D (lw m) n := by rw [← hp]; exact Nat.and_le_right
    have hnm : m &&& fdl D (lw m) n ≤ m := Nat.and_le_left
    have hps := sub_iff.mp hp
    have hcn := cn_le (m &&& fdl D (lw m) n) (p + 1)
    have hc1 : 1 ≤ cn (m &&& fdl D (lw m) n) (p + 1) := by rw [cn_s, if_pos hp]; omega
    have hd := dC_lt (q := p) hm hm1 (by omega)
    rw [L_Sets_findJoinings_76, if_neg (n_nle 0 0 (by omega) (by omega)), grd_t (bnd_nI (by omega) (by omega)), nI_clamp (show p < 2 ^ 31 by omega), sub1]
    have step : ∀ J' : HI, (∀ c, c ≠ 69 → c ≠ 70 → J' c = J c) → (∀ b, b ≠ m → J' 69 b = W b ∧ J' 70 b = V b) → J' 69 m = J 69 m + gC D W n m p → MinOf (J' 70 m) (fun q => (p < q ∨ q = p) ∧ sub q (m &&& fdl D (lw m) n) ∧ bst D q) (fun q => V (dif m (q ||| 2 ^ lw m)) + 1) → ∃ K, L_Sets_findJoinings_76 x2 (nI m) (nI (lw m)) (nI (m &&& fdl D (lw m) n)) f ((nI p - 1) &&& nI (m &&& fdl D (lw m) n)) (nI (cn (m &&& fdl D (lw m) n) (p + 1)) - 1) J' = some K ∧ (∀ c, c ≠ 69 → c ≠ 70 → K c = J c) ∧ (∀ b, b ≠ m → K 69 b = W b ∧ K 70 b = V b) ∧ K 69 m = T ∧ MinOf (K 70 m) (fun q => sub q (m &&& fdl D (lw m) n) ∧ bst D q) (fun q => V (dif m (q ||| 2 ^ lw m)) + 1) := by
      intro J' g1 g2 g3 g4
      by_cases e0 : p = 0
      · subst e0
        rw [cn_1] at hf ⊢
        obtain ⟨f', rfl⟩ : ∃ f', f = f' + 1 := ⟨f - 1, by omega⟩
        rw [L_Sets_findJoinings_76, if_pos (by decide)]
        refine ⟨J', rfl, g1, g2, ?_, g4.c (fun q => ⟨fun hq => ⟨by omega, hq⟩, fun hq => hq.2⟩) (fun _ _ => rfl)⟩
        rw [g3, ← hT, sg_s]
        show _ = J 69 m + (0 + gC D W n m 0)
        rw [Int32.zero_add]
      · have hr : (p - 1) &&& (m &&& fdl D (lw m) n) ≤ p - 1 := Nat.and_le_left
        have hcs := cn_next hp (by omega)
        have hsg := sgC_next (g := gC D W n m) hp (by omega) (fun q hq => gC_no hq)
        rw [nI_and1 (by omega), hcs, nI_pred]
        obtain ⟨K, k1, k2, k3, k4, k5⟩ := ih ((p - 1) &&& (m &&& fdl D (lw m) n)) J' (sub_and _ _) (by omega) (fun b hb => by unfold BR; rw [g1 71 (by decide) (by decide)]; exact hB b hb) g2 (by rw [g3, ← hT, hsg, Int32.add_assoc, Int32.add_comm (gC D W n m p)]) (g4.c (fun q => ⟨fun hq => ⟨(set_next hp (by omega) q hq.1.2).mp hq.1.1, hq.1.2, hq.2⟩, fun hq => ⟨⟨(set_next hp (by omega) q hq.2.1).mpr hq.1, hq.2.1⟩, hq.2.2⟩⟩) (fun _ _ => rfl))
        exact ⟨K, k1, fun c c1 c2 => by rw [k2 c c1 c2, g1 c c1 c2], k3, k4, k5⟩
    rcases hB p (hN p hps) with ⟨b1, b2⟩ | ⟨b1, b2⟩
    · have hg : gC D W n m p = W (dif m (p ||| 2 ^ lw m)) := by unfold gC; rw [if_pos ⟨hps, b1⟩]
      rw [if_neg (by rw [b2]; decide), mk_set p (by omega) _ l1]
      simp only [lt_def]
      rw [mk_dif (mk_or1 (by omega) l1) hm, grd_t (bnd_nI (by omega) (by omega)), grd_t (bnd_nI (by omega) (by omega)), nI_clamp (show m < 2 ^ 31 by omega), nI_clamp (show dif m (p ||| 2 ^ lw m) < 2 ^ 31 by omega), xu_qn (by decide), xu_qn (by decide), mmin_le, (hW (dif m (p ||| 2 ^ lw m)) (by omega)).1, (hW (dif m (p ||| 2 ^ lw m)) (by omega)).2]
      refine step _ (fun c c1 c2 => by rw [xu_ne c2, xu_ne c1]) (fun b hb => ⟨by rw [xu_qn (by decide), xu_rn hb]; exact (hW b hb).1, by rw [xu_rn hb, xu_qn (by decide)]; exact (hW b hb).2⟩) (by rw [xu_qn (by decide), xu_rr, hg]) ?_
      rw [xu_rr]
      refine hV.add (q := p) (fun r => ⟨fun hr => ?_, fun hr => ?_⟩)
      · rcases hr.1 with h' | h'
        · exact Or.inl ⟨⟨h', hr.2.1⟩, hr.2.2⟩
        · exact Or.inr h'
      · rcases hr with hr | hr
        · exact ⟨Or.inl hr.1.1, hr.1.2, hr.2⟩
        · rw [hr]; exact ⟨Or.inr rfl, hps, b1⟩
    · have hg : gC D W n m p = 0 := by unfold gC; rw [if_neg (fun e => b1 e.2)]
      rw [if_pos b2]
      refine step J (fun _ _ _ => rfl) hW (by rw [hg, Int32.add_zero]) (hV.c (fun q => ⟨fun hq => ?_, fun hq => ⟨Or.inl hq.1.1, hq.1.2, hq.2⟩⟩) (fun _ _ => rfl))
      rcases hq.1 with h' | h'
      · exact ⟨⟨h', hq.2.1⟩, hq.2.2⟩
      · rw [h'] at hq; exact absurd hq.2.2 b1
theorem jC_c {m : Nat} {W' V' : Nat → Int32} (hm : m < 256) (h1 : 1 ≤ m) (hX : fdl D (lw m) n < 256) (hb : ∀ b, b ≤ m → W b = W' b ∧ V b = V' b) (h : jC D n W V m) : jC D n W' V' m := by
  have hs : ∀ q, sub q (m &&& fdl D (lw m) n) → q < 256 := fun q hq => by
    have := sub_lt hq
    have : m &&& fdl D (lw m) n ≤ m := Nat.and_le_left
    omega
  refine ⟨?_, ?_⟩
  · rw [← (hb m (Nat.le_refl _)).1, h.1]
    refine sg_c _ (fun q _ => ?_)
    unfold gC
    by_cases c : sub q (m &&& fdl D (lw m) n) ∧ bst D q
    · have := dC_lt (q := q) hm h1 (hs q c.1)
      rw [if_pos c, if_pos c, (hb _ (by omega)).1]
    · rw [if_neg c, if_neg c]
  · rw [← (hb m (Nat.le_refl _)).2]
    refine h.2.c (fun _ => Iff.rfl) (fun q hq => ?_)
    have := dC_lt (q := q) hm h1 (hs q hq.1)
    show V' (dif m (q ||| 2 ^ lw m)) + 1 = V (dif m (q ||| 2 ^ lw m)) + 1
    rw [(hb _ (by omega)).2]
theorem fj26 (hD : WD D) (hn : n = nS D) : ∀ f m (J : HI), 1 ≤ m → m ≤ 2 ^ n → 2 ^ n - m < f → (∀ s, s < n → J 66 s = nI (fdl D s n)) → (∀ b, b < 2 ^ n → BR D (J 71) b) → J 69 0 = 1 → J 70 0 = 0 → (∀ b, 1 ≤ b → b < m → jC D n (J 69) (J 70) b) → ∃ K, L_Sets_findJoinings_26 (nI (2 ^ n - 1)) f (nI m) J = some K ∧ (∀ c, c ≠ 69 → c ≠ 70 → K c = J c) ∧ K 69 0 = 1 ∧ K 70 0 = 0 ∧ (∀ b, 1 ≤ b → b < 2 ^ n → jC D n (K 69) (K 70) b) := by
  have n8 : n ≤ 8 := by rw [hn]; exact hD.1.2
  have h256 := lt_p2 n (by omega)
  have hpos := Nat.two_pow_pos n
  have e6 : (1000000 : Int32).toInt = 1000000 := rfl
  intro f
  induction f with
  | zero => intro m J _ _ h; omega
  | succ f ih =>
    intro m J m1 hm hf h66 h71 h0 h0' hC
    rw [L_Sets_findJoinings_26]
    by_cases h : 2 ^ n ≤ m
    · rw [if_pos (nI_lt (by omega) (by omega))]
      exact ⟨J, rfl, fun _ _ _ => rfl, h0, h0', fun b b1 b2 => hC b b1 (by omega)⟩
    · obtain ⟨l1, l2⟩ := lw_a m (by omega) m1
      have ln := tb_lt (show m < 2 ^ n by omega) l2
      have hfl := fdl_lt (D := D) (n := n) (lw m) n (Nat.le_refl _)
      have hnm : m &&& fdl D (lw m) n ≤ m := Nat.and_le_left
      have hcn := cn_le (m &&& fdl D (lw m) n) ((m &&& fdl D (lw m) n) + 1)
      rw [if_neg (nI_nlt (by omega) (by omega)), grd_t (bnd_nI (by omega) (by omega)), nI_clamp (show m < 2 ^ 31 by omega), nI_1]
      simp only [lt_def]
      rw [low_c (by omega) m1, Option.bind_some, grd_t (bnd_nI (by omega) (by omega)), nI_clamp (show lw m < 2 ^ 31 by omega), xu_ne (by decide), xu_ne (by decide), h66 _ ln, nx_and, cn_bc _ (by omega)]
      obtain ⟨K, k1, k2, k3, k4, k5⟩ := fj76 (D := D) (n := n) (W := J 69) (V := J 70) (m := m) (x2 := nI (2 ^ n - 1)) (T := sg (gC D (J 69) n m) (2 ^ n)) (by omega) m1 (by omega) (fun q hq => by have := sub_lt hq; omega) 1000 (m &&& fdl D (lw m) n) (xu (xu J 69 m 0) 70 m 1000000) (Nat.and_self _) (by omega) (fun b hb => by unfold BR; rw [xu_ne (by decide), xu_ne (by decide)]; exact h71 b hb) (fun b hb => ⟨by rw [xu_qn (by decide), xu_rn hb], by rw [xu_rn hb, xu_qn (by decide)]⟩) (by
        rw [xu_qn (by decide), xu_rr, Int32.zero_add]
        exact (sg_skip (by omega) (fun q q1 q2 => gC_no (fun hq => by have := sub_lt hq; omega))).symm) (by
        rw [xu_rr]
        exact ⟨by omega, fun q hq => by
          exfalso
          have h1 := hq.1.1
          have h3 := sub_lt hq.1.2
          omega, Or.inl rfl⟩)
      rw [k1, Option.bind_some]
      have hb : ∀ b, b < m → K 69 b = J 69 b ∧ K 70 b = J 70 b := fun b hb => k3 b (by omega)
      obtain ⟨M, n1, n2, n3, n4, n5⟩ := ih (m + 1) K (by omega) (by omega) (by omega) (fun s hs => by rw [k2 66 (by decide) (by decide), xu_ne (by decide), xu_ne (by decide)]; exact h66 s hs) (fun b hb => by unfold BR; rw [k2 71 (by decide) (by decide), xu_ne (by decide), xu_ne (by decide)]; exact h71 b hb) (by rw [(hb 0 (by omega)).1]; exact h0) (by rw [(hb 0 (by omega)).2]; exact h0') (fun b b1 b2 => by
        by_cases e : b = m
        · subst e
          refine ⟨?_, k5.c (fun _ => Iff.rfl) (fun q hq => ?_)⟩
          · rw [k4]
            refine sg_c _ (fun q _ => ?_)
            unfold gC
            by_cases c : sub q (b &&& fdl D (lw b) n) ∧ bst D q
            · have hq := sub_lt c.1
              have := dC_lt (m := b) (q := q) (by omega) m1 (by omega)
              rw [if_pos c, if_pos c, (hb _ (by omega)).1]
            · rw [if_neg c, if_neg c]
          · have hq' := sub_lt hq.1
            have := dC_lt (m := b) (q := q) (by omega) m1 (by omega)
            show K 70 (dif b (q ||| 2 ^ lw b)) + 1 = J 70 (dif b (q ||| 2 ^ lw b)) + 1
            rw [(hb _ (by omega)).2]
        · have hfb := fdl_lt (D := D) (n := n) (lw b) n (Nat.le_refl _)
          exact jC_c (by omega) b1 (by omega) (fun b' hb' => ⟨(hb b' (by omega)).1.symm, (hb b' (by omega)).2.symm⟩) (hC b b1 (by omega)))
      exact ⟨M, n1, fun c c1 c2 => by rw [n2 c c1 c2, k2 c c1 c2, xu_ne c2, xu_ne c1], n3, n4, n5⟩
theorem joins_c (h : Rel B L xs C I) : ∃ K, M_Sets_findJoinings C I = some K ∧ fr [66, 69, 70, 71] I K ∧ K 69 0 = 1 ∧ K 70 0 = 0 ∧ (∀ b, 1 ≤ b → b < 2 ^ nS (I 89) → jM (I 89) (nS (I 89)) (K 69) (K 70) b) := by
  have n8 := h.n8
  have h256 := lt_p2 (nS (I 89)) (by omega)
  have hpos := Nat.two_pow_pos (nS (I 89))
  obtain ⟨K, k1, k2, k3, k4⟩ := beasts_c h
  have k11 : K 1 1 = nI (nS (I 89)) := by rw [k2 1 (by decide) (by decide)]; exact st_nI h
  obtain ⟨M, m1, m2, m3, m4, m5⟩ := fj26 (D := I 89) h.2.1 rfl 1000 1 (xu (xu K 69 0 1) 70 0 0) (by omega) (by omega) (by omega) (fun s hs => by rw [xu_ne (by decide), xu_ne (by decide)]; exact k3 s hs) (fun b hb => by unfold BR; rw [xu_ne (by decide), xu_ne (by decide)]; exact k4 b hb) (by rw [xu_qn (by decide), xu_rr]) (by rw [xu_rr]) (fun b b1 b2 => by omega)
  refine ⟨M, ?_, fun c hc => ?_, m3, m4, fun b b1 b2 => jC_jM h.2.1 rfl b2 b1 (m5 b b1 b2)⟩
  · unfold M_Sets_findJoinings
    simp only [lt_def]
    rw [k1, Option.bind_some, all_c n8 k11, show L_Sets_findJoinings_26 (nI (2 ^ nS (I 89) - 1)) 1000 1 (xu (xu K 69 0 1) 70 0 0) = some M from m1, Option.bind_some]
  · rw [m2 c (fun e => hc (by simp [e])) (fun e => hc (by simp [e])), xu_ne (fun e => hc (by simp [e])), xu_ne (fun e => hc (by simp [e])), k2 c (fun e => hc (by simp [e])) (fun e => hc (by simp [e]))]
/-! the reference -/
theorem ib14 (hD : WD D) {q s : Nat} (hq : q < 256) (hs : s < nS D) (h89 : K 89 = D) : (∃ t, t < s ∧ q.testBit s = true ∧ q.testBit t = true ∧ ¬ jnd D s t = true) ∧ L_Model_isBeast_14 (nI q) (nI s) K 1000 0 = some 0 ∨ (∀ t, t < s → q.testBit s = true → q.testBit t = true → jnd D s t = true) ∧ L_Model_isBeast_14 (nI q) (nI s) K 1000 0 = some 1 := by
  have n8 := hD.1.2
  have hw : ∀ s, s < nS D → wS (K 89) s := fun s hs => by rw [h89]; exact hD.2.2.2.2.1 s hs
  have jm : ∀ t, t < nS D → M_Model_joined K (nI s) (nI t) = some (if jnd D s t = true then 1 else 0) := fun t ht => by
    have := joined_m (I := K) (s := s) (t := t) (by omega) (by omega) (hw s hs) (hw t ht)
    rw [h89] at this; exact this
  have key := srch (fun f i => L_Model_isBeast_14 (nI q) (nI s) K f (nI i)) s (fun t => q.testBit s = true ∧ q.testBit t = true ∧ ¬ jnd D s t = true) (fun _ => 0) 1 ?_ ?_ ?_ 1000 0 (by omega) (by omega)
  · rcases key with ⟨j, j1, j2, j3, j4, j5⟩ | ⟨j1, j2⟩
    · exact Or.inl ⟨⟨j, j2, j3⟩, j5⟩
    · refine Or.inr ⟨fun t ht a b => ?_, j2⟩
      cases e : jnd D s t
      · exact absurd ⟨a, b, by rw [e]; decide⟩ (j1 t (by omega) ht)
      · rfl
  · intro f i hi hp
    show L_Model_isBeast_14 (nI q) (nI s) K (f + 1) (nI i) = L_Model_isBeast_14 (nI q) (nI s) K f (nI (i + 1))
    rw [L_Model_isBeast_14, if_neg (nI_ge hi (by omega)), mk_bit q hq s (by omega), mk_bit q hq i (by omega), nI_1]
    by_cases a : q.testBit s = true
    · rw [if_pos a, if_pos rfl]
      by_cases b : q.testBit i = true
      · rw [if_pos b, if_pos rfl, jm i (by omega), Option.bind_some]
        by_cases c : jnd D s i = true
        · rw [if_pos c, if_neg one0]
        · exact absurd ⟨a, b, c⟩ hp
      · rw [if_neg b, if_neg (show ¬ (0 : Int32) = 1 by decide)]
    · rw [if_neg a, if_neg (show ¬ (0 : Int32) = 1 by decide)]
  · intro f i hi hp
    show L_Model_isBeast_14 (nI q) (nI s) K (f + 1) (nI i) = some 0
    rw [L_Model_isBeast_14, if_neg (nI_ge hi (by omega)), mk_bit q hq s (by omega), mk_bit q hq i (by omega), if_pos hp.1, if_pos rfl, if_pos hp.2.1, if_pos rfl, jm i (by omega), Option.bind_some, if_neg hp.2.2, if_pos rfl]
  · intro f
    show L_Model_isBeast_14 (nI q) (nI s) K (f + 1) (nI s) = some 1
    rw [L_Model_isBeast_14, if_pos (nI_le (Nat.le_refl _) (by omega))]
theorem beast_m (hD : WD D) {q : Nat} (hq : q < 2 ^ nS D) (h89 : K 89 = D) : ∃ v, M_Model_isBeast K (nI q) = some v ∧ ((bst D q ∧ v = 1) ∨ (¬ bst D q ∧ v = 0)) := by
  have n8 := hD.1.2
  have h256 := lt_p2 (nS D) (by omega)
  have k0 : K 89 0 = nI (nS D) := by rw [h89]; exact hD.1.1
  have key := srch (fun f i => L_Model_isBeast_2 (nI q) K f (nI i)) (nS D) (fun s => ∃ t, t < s ∧ q.testBit s = true ∧ q.testBit t = true ∧ ¬ jnd D s t = true) (fun _ => 0) 1 ?_ ?_ ?_ 1000 0 (by omega) (by omega)
  · unfold M_Model_isBeast
    rcases key with ⟨j, j1, j2, ⟨t, t1, t2, t3, t4⟩, j4, j5⟩ | ⟨j1, j2⟩
    · refine ⟨0, ?_, Or.inr ⟨fun hb => t4 (hb j t t1 t2 t3), rfl⟩⟩
      rw [show L_Model_isBeast_2 (nI q) K 1000 0 = some 0 from j5, Option.bind_some, if_pos rfl]
    · refine ⟨1, ?_, Or.inl ⟨fun s t h1 h2 h3 => ?_, rfl⟩⟩
      · rw [show L_Model_isBeast_2 (nI q) K 1000 0 = some 1 from j2, Option.bind_some, if_neg (by decide)]
      · cases e : jnd D s t
        · exact absurd ⟨t, h1, h2, h3, by rw [e]; decide⟩ (j1 s (by omega) (tb_lt hq h2))
        · rfl
  · intro f i hi hp
    show L_Model_isBeast_2 (nI q) K (f + 1) (nI i) = L_Model_isBeast_2 (nI q) K f (nI (i + 1))
    rw [L_Model_isBeast_2, k0, if_neg (nI_ge hi (by omega)), nI_1]
    rcases ib14 hD (q := q) (s := i) (by omega) hi h89 with ⟨g1, g2⟩ | ⟨g1, g2⟩
    · exact absurd g1 hp
    · rw [g2, Option.bind_some, if_neg (by decide)]
  · intro f i hi hp
    show L_Model_isBeast_2 (nI q) K (f + 1) (nI i) = some 0
    rw [L_Model_isBeast_2, k0, if_neg (nI_ge hi (by omega))]
    rcases ib14 hD (q := q) (s := i) (by omega) hi h89 with ⟨g1, g2⟩ | ⟨g1, g2⟩
    · rw [g2, Option.bind_some, if_pos rfl]
    · obtain ⟨t, t1, t2, t3, t4⟩ := hp
      exact absurd (g1 t t1 t2 t3) t4
  · intro f
    show L_Model_isBeast_2 (nI q) K (f + 1) (nI (nS D)) = some 1
    rw [L_Model_isBeast_2, k0, if_pos (nI_le (Nat.le_refl _) (by omega))]
theorem mj74' {m : Nat} {x1 T : Int32} (hm : m < 256) (hm1 : 1 ≤ m) : ∀ f p (J : HI), p &&& m = p → p < f → (∀ b, b ≤ m → 1 ≤ b → BR D (J 100) b) → (∀ b, b ≠ m → J 101 b = W b ∧ J 96 b = V b) → J 101 m + sg (gR D W m) (p + 1) = T → MinOf (J 96 m) (fun q => (p < q ∧ sub q m) ∧ q.testBit (lw m) = true ∧ bst D q) (fun q => V (dif m q) + 1) → ∃ K, L_Model_joinings_74 x1 (nI m) (nI (2 ^ lw m)) f (nI p) J = some K ∧ (∀ c, c ≠ 96 → c ≠ 101 → K c = J c) ∧ (∀ b, b ≠ m → K 101 b = W b ∧ K 96 b = V b) ∧ K 101 m = T ∧ MinOf (K 96 m) (fun q => sub q m ∧ q.testBit (lw m) = true ∧ bst D q) (fun q => V (dif m q) + 1) := by
  obtain ⟨l1, l2⟩ := lw_a m hm hm1
  intro f
  induction f with
  | zero => intro p J _ h; omega
  | succ f ih =>
    intro p J hp hf hB hW hT hV
    have hpm : p ≤ m := by rw [← hp]; exact Nat.and_le_right
    have hps := sub_iff.mp hp
    rw [L_Model_joinings_74]
    by_cases e0 : p = 0
    · subst e0
      rw [if_pos (by decide)]
      refine ⟨J, rfl, fun _ _ _ => rfl, hW, ?_, hV.c (fun q => ⟨fun hq => ⟨⟨?_, hq.1⟩, hq.2⟩, fun hq => ⟨hq.1.2, hq.2⟩⟩) (fun _ _ => rfl)⟩
      · rw [← hT, sg_s]
        have : gR D W m 0 = 0 := by
          unfold gR
          rw [if_neg (fun e => by have := e.2.1; rw [Nat.zero_testBit] at this; cases this)]
        rw [this]
        show _ = _ + ((0 : Int32) + 0)
        rw [Int32.add_zero, Int32.add_zero]
      · have := hq.2.1
        by_cases e : q = 0
        · rw [e, Nat.zero_testBit] at this; cases this
        · omega
    · have hr : (p - 1) &&& m ≤ p - 1 := Nat.and_le_left
      have hsg := sgC_next (g := gR D W m) hp (by omega) (fun q hq => gR_no hq)
      rw [if_neg (n_nle 0 0 (by omega) (by omega)), nI_and1 (by omega)]
      have skip : ¬ (p.testBit (lw m) = true ∧ bst D p) → ∃ K, L_Model_joinings_74 x1 (nI m) (nI (2 ^ lw m)) f (nI ((p - 1) &&& m)) J = some K ∧ (∀ c, c ≠ 96 → c ≠ 101 → K c = J c) ∧ (∀ b, b ≠ m → K 101 b = W b ∧ K 96 b = V b) ∧ K 101 m = T ∧ MinOf (K 96 m) (fun q => sub q m ∧ q.testBit (lw m) = true ∧ bst D q) (fun q => V (dif m q) + 1) := by
        intro hno
        have hg : gR D W m p = 0 := by unfold gR; rw [if_neg (fun e => hno e.2)]
        refine ih ((p - 1) &&& m) J (sub_and _ _) (by omega) hB hW (by rw [← hT, hsg, hg, Int32.add_zero]) (hV.c (fun q => ⟨fun hq => ?_, fun hq => ⟨⟨(set_next hp (by omega) q hq.1.2).mpr (Or.inl hq.1.1), hq.1.2⟩, hq.2⟩⟩) (fun _ _ => rfl))
        rcases (set_next hp (by omega) q hq.1.2).mp hq.1.1 with h' | h'
        · exact ⟨⟨h', hq.1.2⟩, hq.2⟩
        · rw [h'] at hq; exact absurd hq.2 hno
      by_cases c1 : p.testBit (lw m) = true
      · rw [if_neg (fun e => by have := (mk_low p (by omega) _ l1).mp e; rw [c1] at this; cases this), grd_t (bnd_nI (by omega) (by omega)), nI_clamp (show p < 2 ^ 31 by omega)]
        rcases hB p hpm (by omega) with ⟨b1, b2⟩ | ⟨b1, b2⟩
        · have hd := dif_lt2 hm (show p < 256 by omega) l2 c1
          have hg : gR D W m p = W (dif m p) := by unfold gR; rw [if_pos ⟨hps, c1, b1⟩]
          rw [if_neg (by rw [b2]; decide), mk_dif (show p < 256 by omega) hm, grd_t (bnd_nI (by omega) (by omega)), grd_t (bnd_nI (by omega) (by omega)), nI_clamp (show m < 2 ^ 31 by omega), nI_clamp (show dif m p < 2 ^ 31 by omega)]
          simp only [lt_def]
          rw [(hW (dif m p) (by omega)).1, xu_qn (show (96 : Nat) ≠ 101 by decide), xu_qn (show (96 : Nat) ≠ 101 by decide), (hW (dif m p) (by omega)).2]
          have step : ∀ v, v = (if J 96 m ≤ V (dif m p) + 1 then J 96 m else V (dif m p) + 1) → ∃ K, L_Model_joinings_74 x1 (nI m) (nI (2 ^ lw m)) f (nI ((p - 1) &&& m)) (xu (xu J 101 m (J 101 m + W (dif m p))) 96 m v) = some K ∧ (∀ c, c ≠ 96 → c ≠ 101 → K c = J c) ∧ (∀ b, b ≠ m → K 101 b = W b ∧ K 96 b = V b) ∧ K 101 m = T ∧ MinOf (K 96 m) (fun q => sub q m ∧ q.testBit (lw m) = true ∧ bst D q) (fun q => V (dif m q) + 1) := by
            intro v hv
            obtain ⟨K, k1, k2, k3, k4, k5⟩ := ih ((p - 1) &&& m) (xu (xu J 101 m (J 101 m + W (dif m p))) 96 m v) (sub_and _ _) (by omega) (fun b hb b1 => by unfold BR; rw [xu_ne (by decide), xu_ne (by decide)]; exact hB b hb b1) (fun b hb => ⟨by rw [xu_qn (by decide), xu_rn hb]; exact (hW b hb).1, by rw [xu_rn hb, xu_qn (by decide)]; exact (hW b hb).2⟩) (by rw [xu_qn (by decide), xu_rr, ← hT, hsg, hg, Int32.add_assoc, Int32.add_comm (W (dif m p))]) (by
              rw [xu_rr, hv]
              refine hV.add (q := p) (fun r => ⟨fun hr => ?_, fun hr => ?_⟩)
              · rcases (set_next hp (by omega) r hr.1.2).mp hr.1.1 with h' | h'
                · exact Or.inl ⟨⟨h', hr.1.2⟩, hr.2⟩
                · exact Or.inr h'
              · rcases hr with hr | hr
                · exact ⟨⟨(set_next hp (by omega) r hr.1.2).mpr (Or.inl hr.1.1), hr.1.2⟩, hr.2⟩
                · rw [hr]; exact ⟨⟨(set_next hp (by omega) p hps).mpr (Or.inr rfl), hps⟩, c1, b1⟩)
            exact ⟨K, k1, fun c c1 c2 => by rw [k2 c c1 c2, xu_ne c1, xu_ne c2], k3, k4, k5⟩
          by_cases c : J 96 m ≤ V (dif m p) + 1
          · rw [if_pos c]; exact step _ (by rw [if_pos c])
          · rw [if_neg c]; exact step _ (by rw [if_neg c])
        · rw [if_pos b2]
          exact skip (fun e => b1 e.2)
      · rw [if_pos ((mk_low p (by omega) _ l1).mpr (tb_nt c1))]
        exact skip (fun e => c1 e.1)
theorem mj32 {x1 : Int32} (hD : WD D) : ∀ f m (J : HI), 1 ≤ m → m ≤ 2 ^ nS D → 2 ^ nS D - m < f → J 89 = D → (∀ b, 1 ≤ b → b < m → BR D (J 100) b) → J 101 0 = 1 → J 96 0 = 0 → (∀ b, 1 ≤ b → b < m → jM D (nS D) (J 101) (J 96) b) → ∃ K, L_Model_joinings_32 x1 f (nI m) J = some K ∧ (∀ c, c ≠ 96 → c ≠ 100 → c ≠ 101 → K c = J c) ∧ K 101 0 = 1 ∧ K 96 0 = 0 ∧ (∀ b, 1 ≤ b → b < 2 ^ nS D → jM D (nS D) (K 101) (K 96) b) := by
  have n8 := hD.1.2
  have h256 := lt_p2 (nS D) (by omega)
  have hpos := Nat.two_pow_pos (nS D)
  have e6 : (1000000 : Int32).toInt = 1000000 := rfl
  intro f
  induction f with
  | zero => intro m J _ _ h; omega
  | succ f ih =>
    intro m J m1 hm hf h89 h100 h0 h0' hC
    rw [L_Model_joinings_32, all_m hD h89]
    by_cases h : 2 ^ nS D ≤ m
    · rw [if_pos (nI_lt (by omega) (by omega))]
      exact ⟨J, rfl, fun _ _ _ _ => rfl, h0, h0', fun b b1 b2 => hC b b1 (by omega)⟩
    · obtain ⟨l1, l2⟩ := lw_a m (by omega) m1
      obtain ⟨v, v1, v2⟩ := beast_m (K := J) hD (show m < 2 ^ nS D by omega) h89
      have gv : b01 v = true := by rcases v2 with ⟨-, rfl⟩ | ⟨-, rfl⟩ <;> rfl
      rw [if_neg (nI_nlt (by omega) (by omega)), v1, Option.bind_some, grd_t gv, grd_t (bnd_nI (by omega) (by omega)), nI_clamp (show m < 2 ^ 31 by omega), nI_1, lw_c m (by omega) m1]
      simp only [lt_def]
      have rBR : ∀ b, b ≤ m → 1 ≤ b → BR D (xu J 100 m v 100) b := fun b hb b1 => by
        unfold BR
        by_cases e : b = m
        · subst e; rw [xu_rr]; exact v2
        · rw [xu_rn e]; exact h100 b b1 (by omega)
      obtain ⟨K, k1, k2, k3, k4, k5⟩ := mj74' (x1 := x1) (D := D) (W := J 101) (V := J 96) (m := m) (T := sg (gR D (J 101) m) (2 ^ nS D)) (by omega) m1 1000 m (xu (xu (xu J 100 m v) 101 m 0) 96 m 1000000) (Nat.and_self _) (by omega) (fun b hb b1 => by unfold BR; rw [xu_ne (by decide), xu_ne (by decide)]; exact rBR b hb b1) (fun b hb => ⟨by rw [xu_qn (by decide), xu_rn hb, xu_qn (by decide)], by rw [xu_rn hb, xu_qn (by decide), xu_qn (by decide)]⟩) (by
        rw [xu_qn (by decide), xu_rr, Int32.zero_add]
        exact (sg_skip (by omega) (fun q q1 q2 => gR_no (fun hq => by have := sub_lt hq; omega))).symm) (by
        rw [xu_rr]
        exact ⟨by omega, fun q hq => by
          exfalso
          have h1 := hq.1.1
          have h3 := sub_lt hq.1.2
          omega, Or.inl rfl⟩)
      rw [k1, Option.bind_some]
      have hb : ∀ b, b < m → K 101 b = J 101 b ∧ K 96 b = J 96 b := fun b hb => k3 b (by omega)
      obtain ⟨M, n1, n2, n3, n4, n5⟩ := ih (m + 1) K (by omega) (by omega) (by omega) (by rw [k2 89 (by decide) (by decide), xu_ne (by decide), xu_ne (by decide), xu_ne (by decide)]; exact h89) (fun b b1 b2 => by unfold BR; rw [k2 100 (by decide) (by decide), xu_ne (by decide), xu_ne (by decide)]; exact rBR b (by omega) b1) (by rw [(hb 0 (by omega)).1]; exact h0) (by rw [(hb 0 (by omega)).2]; exact h0') (fun b b1 b2 => by
        by_cases e : b = m
        · subst e
          refine ⟨?_, k5.c (fun _ => Iff.rfl) (fun q hq => ?_)⟩
          · rw [k4]
            exact sg_c _ (fun q _ => gR_c (by omega) m1 (fun c hc => (hb c hc).1.symm) q)
          · have hq' := sub_lt hq.1
            have := dif_lt2 (show b < 256 by omega) (show q < 256 by omega) l2 hq.2.1
            show K 96 (dif b q) + 1 = J 96 (dif b q) + 1
            rw [(hb _ (by omega)).2]
        · exact jM_c (by omega) b1 (fun b' hb' => ⟨(hb b' (by omega)).1.symm, (hb b' (by omega)).2.symm⟩) (hC b b1 (by omega)))
      exact ⟨M, n1, fun c c1 c2 c3 => by rw [n2 c c1 c2 c3, k2 c c1 c3, xu_ne c1, xu_ne c3, xu_ne c2], n3, n4, n5⟩
theorem ok_joinings (h : Rel B L xs C I) (x : Int32) : OK1 B L xs C (M_H_joinings C I x) (fun J => M_Model_joinings J x) := by
  have n8 := h.n8
  have h256 := lt_p2 (nS (I 89)) (by omega)
  have hpos := Nat.two_pow_pos (nS (I 89))
  unfold M_H_joinings M_Model_joinings
  simp only [bsome, in_nat x (a := 0) (b := 1) (by decide) (by decide), within_eq]
  by_cases hx : ((0 : Nat) : Int) ≤ x.toInt ∧ x.toInt ≤ ((1 : Nat) : Int)
  · have hx' : 0 ≤ x.toInt ∧ x.toInt ≤ (1 : Int32).toInt := hx
    simp only [if_pos hx, if_pos hx', if_neg one0, lt_def]
    obtain ⟨J, j1, j2, j3, j4, j5⟩ := joins_c h
    have j89 : J 89 = I 89 := j2 89 (by decide)
    have j11 : J 1 1 = nI (nS (I 89)) := by rw [j2 1 (by decide)]; exact st_nI h
    obtain ⟨K, k1, k2, k3, k4, k5⟩ := mj32 (x1 := x) (D := I 89) h.2.1 1000 1 (xu (xu J 101 0 1) 96 0 0) (by omega) (by omega) (by omega) (by rw [xu_ne (by decide), xu_ne (by decide)]; exact j89) (fun b b1 b2 => by omega) (by rw [xu_qn (by decide), xu_rr]) (by rw [xu_rr]) (fun b b1 b2 => by omega)
    have k89 : K 89 = I 89 := by rw [k2 89 (by decide) (by decide) (by decide), xu_ne (by decide), xu_ne (by decide)]; exact j89
    have hu := jM_uni n8 (by rw [k3, k4, j3, j4]; exact ⟨rfl, rfl⟩) k5 j5 _ (2 ^ nS (I 89) - 1) (Nat.le_refl _) (by omega)
    refine ok_val h (v := if x = 0 then J 69 (2 ^ nS (I 89) - 1) else J 70 (2 ^ nS (I 89) - 1)) (J := J) (K := K) (W := [66, 69, 70, 71]) (W' := [96, 100, 101]) ?_ j2 (by decide) (by decide) ?_ (fun c hc => by rw [k2 c (fun e => hc (by simp [e])) (fun e => hc (by simp [e])) (fun e => hc (by simp [e])), xu_ne (fun e => hc (by simp [e])), xu_ne (fun e => hc (by simp [e]))]) (by decide) (by rw [k2 88 (by decide) (by decide) (by decide), xu_ne (by decide), xu_ne (by decide)]) (by rw [k2 88 (by decide) (by decide) (by decide), xu_ne (by decide), xu_ne (by decide)])
    · unfold M_Sets_joiningCount M_Sets_fewestBeasts
      rw [j1, Option.bind_some, all_c n8 j11, grd_t (bnd_nI (by omega) (by omega)), grd_t (bnd_nI (by omega) (by omega)), nI_clamp (by omega), Option.bind_some, Option.bind_some]
      by_cases ex : x = 0
      · rw [if_pos ex, if_pos ex]
      · rw [if_neg ex, if_neg ex]
    · show Option.bind (L_Model_joinings_32 x 1000 1 (xu (xu J 101 0 1) 96 0 0)) _ = _
      rw [show L_Model_joinings_32 x 1000 1 (xu (xu J 101 0 1) 96 0 0) = some K from k1, Option.bind_some, all_m h.2.1 k89, grd_t (bnd_nI (by omega) (by omega)), grd_t (bnd_nI (by omega) (by omega)), nI_clamp (by omega), hu.1, hu.2]
      by_cases ex : x = 0
      · rw [if_pos ex, if_pos ex]
      · rw [if_neg ex, if_neg ex]
  · have hx' : ¬ (0 ≤ x.toInt ∧ x.toInt ≤ (1 : Int32).toInt) := hx
    simp only [if_neg hx, if_neg hx', if_pos rfl]
    exact err_ok0 1 (by decide) (by decide) h rfl rfl
end JN
