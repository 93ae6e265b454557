/-! the least that is wrong -/
def mf (D : Nat → Int32) (a : Nat) (V : Nat → Int32) : Nat → Int32
  | 0 => 1000000
  | i + 1 => if a.testBit i = true then mf D a V i else if cs D i a + V (a ||| 2 ^ i) < mf D a V i then cs D i a + V (a ||| 2 ^ i) else mf D a V i
def bv (D : Nat → Int32) (n : Nat) (V : Nat → Int32) (a : Nat) : Prop := V a = if a = 2 ^ n - 1 then 0 else mf D a V n
section RBST
variable {B L : Nat} {xs : Nat → Int32} {C : HC} {I J K : HI} {D V V' : Nat → Int32}
theorem mf_s (a i : Nat) : mf D a V (i + 1) = if a.testBit i = true then mf D a V i else if cs D i a + V (a ||| 2 ^ i) < mf D a V i then cs D i a + V (a ||| 2 ^ i) else mf D a V i := rfl
theorem or_gt {a i : Nat} (h : a.testBit i = false) : a < a ||| 2 ^ i := by
  have h1 := or_ge a i
  have h2 := or_ne h
  omega
theorem tb_nt {b : Bool} (h : ¬ b = true) : b = false := by cases b <;> simp_all
theorem mf_c {a n : Nat} (ha : a < 2 ^ n) (h : ∀ b, b < 2 ^ n → a < b → V b = V' b) : ∀ i, i ≤ n → mf D a V i = mf D a V' i := by
  intro i
  induction i with
  | zero => intro _; rfl
  | succ i ih =>
    intro hi
    rw [mf_s, mf_s, ih (by omega)]
    by_cases e : a.testBit i = true
    · rw [if_pos e, if_pos e]
    · rw [if_neg e, if_neg e, h _ (or_lt ha (by omega)) (or_gt (tb_nt e))]
theorem bv_uni {n : Nat} (h : ∀ a, a < 2 ^ n → bv D n V a) (h' : ∀ a, a < 2 ^ n → bv D n V' a) : ∀ d a, 2 ^ n - a ≤ d → a < 2 ^ n → V a = V' a := by
  intro d
  induction d with
  | zero => intro a h1 h2; omega
  | succ d ih =>
    intro a h1 h2
    rw [h a h2, h' a h2, mf_c (V' := V') h2 (fun b hb hab => ih b (by omega) hb) n (Nat.le_refl _)]
theorem full_eq : ∀ n, n < 9 → ∀ a, a < 2 ^ n → (∀ j, j < n → a.testBit j = true) → a = 2 ^ n - 1 := by decide +kernel
theorem pc_all : ∀ n, n < 9 → pc (2 ^ n - 1) = n := by decide +kernel
theorem pc_le : ∀ a, a < 256 → pc a ≤ 8 := by decide +kernel
theorem mf_att {a : Nat} : ∀ n, (∀ i, i < n → a.testBit i = false → (cs D i a + V (a ||| 2 ^ i)).toInt < 1000000) → (mf D a V n = 1000000 ∧ ∀ j, j < n → a.testBit j = true) ∨ (∃ j, j < n ∧ a.testBit j = false ∧ mf D a V n = cs D j a + V (a ||| 2 ^ j)) := by
  intro n
  induction n with
  | zero => intro _; exact Or.inl ⟨rfl, fun j hj => by omega⟩
  | succ n ih =>
    intro h
    have h' := ih (fun i hi => h i (by omega))
    rw [mf_s]
    by_cases e : a.testBit n = true
    · rw [if_pos e]
      rcases h' with ⟨a1, a2⟩ | ⟨j, j1, j2, j3⟩
      · refine Or.inl ⟨a1, fun j hj => ?_⟩
        by_cases ej : j = n
        · rw [ej]; exact e
        · exact a2 j (by omega)
      · exact Or.inr ⟨j, by omega, j2, j3⟩
    · rw [if_neg e]
      have hn := h n (by omega) (tb_nt e)
      by_cases c : cs D n a + V (a ||| 2 ^ n) < mf D a V n
      · rw [if_pos c]
        exact Or.inr ⟨n, by omega, tb_nt e, rfl⟩
      · rw [if_neg c]
        rcases h' with ⟨a1, a2⟩ | ⟨j, j1, j2, j3⟩
        · exfalso
          apply c
          rw [a1, i_lt]
          exact hn
        · exact Or.inr ⟨j, by omega, j2, j3⟩
theorem bv_rg {n : Nat} (hD : WD D) (hn : n ≤ 8) (h : ∀ a, a < 2 ^ n → bv D n V a) : ∀ d a, 2 ^ n - a ≤ d → a < 2 ^ n → 0 ≤ (V a).toInt ∧ (V a).toInt ≤ 12000 * (8 - (pc a : Int)) := by
  have h256 := lt_p2 n (by omega)
  intro d
  induction d with
  | zero => intro a h1 h2; omega
  | succ d ih =>
    intro a h1 h2
    have hpc := pc_le a (by omega)
    have hb : ∀ i, i < n → a.testBit i = false → 0 ≤ (cs D i a + V (a ||| 2 ^ i)).toInt ∧ (cs D i a + V (a ||| 2 ^ i)).toInt ≤ 12000 * (8 - (pc a : Int)) := by
      intro i hi e
      obtain ⟨c1, c2⟩ := cs_rg hD i a
      have ho := or_lt h2 hi
      have hg := or_gt e
      obtain ⟨v1, v2⟩ := ih (a ||| 2 ^ i) (by omega) ho
      have hp := pc_set a (by omega) i (by omega) e
      have hp2 := pc_le (a ||| 2 ^ i) (by omega)
      rw [hp] at v2 hp2
      rw [i_add (by omega)]
      omega
    have hv := h a h2
    unfold bv at hv
    by_cases e : a = 2 ^ n - 1
    · rw [if_pos e] at hv
      rw [hv, show (0 : Int32).toInt = 0 from rfl]
      omega
    · rw [if_neg e] at hv
      rcases mf_att (D := D) (V := V) (a := a) n (fun i hi ei => by have := hb i hi ei; omega) with ⟨a1, a2⟩ | ⟨j, j1, j2, j3⟩
      · exact absurd (full_eq n (by omega) a h2 a2) e
      · rw [hv, j3]
        exact hb j j1 j2
/-- the first that is best -/
def fP (D V : Nat → Int32) (a i : Nat) : Prop := a.testBit i = false ∧ cs D i a + V (a ||| 2 ^ i) = V a
theorem bv_ex {n a : Nat} (hD : WD D) (hn : n ≤ 8) (h : ∀ a, a < 2 ^ n → bv D n V a) (ha : a < 2 ^ n) (e : a ≠ 2 ^ n - 1) : ∃ j, j < n ∧ fP D V a j := by
  have h256 := lt_p2 n (by omega)
  have hv := h a ha
  unfold bv at hv
  rw [if_neg e] at hv
  rcases mf_att (D := D) (V := V) (a := a) n (fun i hi ei => by
    obtain ⟨c1, c2⟩ := cs_rg hD i a
    have ho := or_lt ha hi
    obtain ⟨v1, v2⟩ := bv_rg hD hn h _ (a ||| 2 ^ i) (Nat.le_refl _) ho
    rw [i_add (by omega)]
    omega) with ⟨a1, a2⟩ | ⟨j, j1, j2, j3⟩
  · exact absurd (full_eq n (by omega) a ha a2) e
  · exact ⟨j, j1, j2, by rw [hv, j3]⟩
noncomputable def fsb (D V : Nat → Int32) (a : Nat) : Nat := Classical.epsilon (fun j => fP D V a j ∧ ∀ i, i < j → ¬ fP D V a i)
theorem fsb_sp {a : Nat} (h : ∃ j, fP D V a j) : fP D V a (fsb D V a) ∧ ∀ i, i < fsb D V a → ¬ fP D V a i := by
  obtain ⟨j, j1, j2⟩ := pk_least (fun j => fP D V a j) h
  exact Classical.epsilon_spec (p := fun j => fP D V a j ∧ ∀ i, i < j → ¬ fP D V a i) ⟨j, j1, j2⟩
theorem fsb_eq {a j : Nat} (h1 : fP D V a j) (h2 : ∀ i, i < j → ¬ fP D V a i) : fsb D V a = j := by
  obtain ⟨s1, s2⟩ := fsb_sp (D := D) (V := V) ⟨j, h1⟩
  rcases Nat.lt_trichotomy (fsb D V a) j with h | h | h
  · exact absurd s1 (h2 _ h)
  · exact h
  · exact absurd h1 (s2 _ h)
noncomputable def mkk (D V : Nat → Int32) : Nat → Nat
  | 0 => 0
  | i + 1 => mkk D V i ||| 2 ^ fsb D V (mkk D V i)
theorem mkk_s (i : Nat) : mkk D V (i + 1) = mkk D V i ||| 2 ^ fsb D V (mkk D V i) := rfl
theorem mkk_p {n : Nat} (hD : WD D) (hn : n ≤ 8) (h : ∀ a, a < 2 ^ n → bv D n V a) : ∀ i, i ≤ n → mkk D V i < 2 ^ n ∧ pc (mkk D V i) = i ∧ (i < n → fsb D V (mkk D V i) < n ∧ fP D V (mkk D V i) (fsb D V (mkk D V i)) ∧ ∀ k, k < fsb D V (mkk D V i) → ¬ fP D V (mkk D V i) k) := by
  have h256 := lt_p2 n (by omega)
  have fin : ∀ i a, a < 2 ^ n → pc a = i → i < n → fsb D V a < n ∧ fP D V a (fsb D V a) ∧ ∀ k, k < fsb D V a → ¬ fP D V a k := by
    intro i a ha hp hi
    obtain ⟨j, j1, j2⟩ := bv_ex hD hn h ha (fun e => by have := pc_all n (by omega); rw [e, this] at hp; omega)
    obtain ⟨s1, s2⟩ := fsb_sp (D := D) (V := V) ⟨j, j2⟩
    refine ⟨?_, s1, s2⟩
    rcases Nat.lt_or_ge (fsb D V a) n with h | h
    · exact h
    · exact absurd j2 (s2 j (by omega))
  intro i
  induction i with
  | zero => intro _; exact ⟨Nat.two_pow_pos n, (by decide : pc 0 = 0), fun hi => fin 0 0 (Nat.two_pow_pos n) (by decide) hi⟩
  | succ i ih =>
    intro hi
    obtain ⟨i1, i2, i3⟩ := ih (by omega)
    obtain ⟨f1, f2, f3⟩ := i3 (by omega)
    rw [mkk_s]
    have q1 := or_lt i1 f1
    have q2 : pc (mkk D V i ||| 2 ^ fsb D V (mkk D V i)) = i + 1 := by rw [pc_set _ (by omega) _ (by omega) f2.1]; omega
    exact ⟨q1, q2, fun hi => fin _ _ q1 q2 hi⟩
/-! the class -/
def CR (D : Nat → Int32) (J : HI) : Prop := (∀ s, s < 8 → J 65 s = nI (blw D s)) ∧ (∀ u w, u < 8 → w < 8 → J 67 (u * 8 + w) = los D u w (nL D))
theorem CR.c (h : CR D J) (h1 : K 65 = J 65) (h2 : K 67 = J 67) : CR D K := ⟨fun s hs => by rw [h1]; exact h.1 s hs, fun u w hu hw => by rw [h2]; exact h.2 u w hu hw⟩
theorem fb44 {n a : Nat} (hD : WD D) (hn : n ≤ 8) (ha : a < 2 ^ n) : ∀ f i (J : HI), i ≤ n → n - i < f → CR D J → (∀ b, b ≠ a → J 70 b = V b) → J 70 a = mf D a V i → ∃ K, L_Sets_findBestOrder_44 (nI n) (nI a) f (nI i) J = some K ∧ (∀ c, c ≠ 70 → K c = J c) ∧ (∀ b, b ≠ a → K 70 b = V b) ∧ K 70 a = mf D a V n := by
  have h256 := lt_p2 n (by omega)
  intro f
  induction f with
  | zero => intro i J _ h; omega
  | succ f ih =>
    intro i J hi hf hC hW hv
    rw [L_Sets_findBestOrder_44]
    by_cases h : n ≤ i
    · rw [if_pos (nI_le h (by omega))]
      obtain rfl : i = n := by omega
      exact ⟨J, rfl, fun _ _ => rfl, hW, hv⟩
    · have hs := mf_s (D := D) (V := V) a i
      rw [if_neg (nI_ge (by omega) (by omega)), has_eq (by omega) (by omega), nI_1]
      by_cases e : a.testBit i = true
      · rw [if_pos e, if_neg one0]
        rw [if_pos e] at hs
        exact ih (i + 1) J (by omega) (by omega) hC hW (by rw [hs]; exact hv)
      · have ho := or_lt ha (show i < n by omega)
        rw [if_neg e] at hs
        rw [if_neg e, if_pos rfl, grd_t (bnd_nI (by omega) (by omega)), lossOf_c hD (by omega) (by omega) hC.1 hC.2, Option.bind_some, mk_set a (by omega) i (by omega), grd_t (bnd_nI (by omega) (by omega)), nI_clamp (by omega), nI_clamp (by omega), hW _ (or_ne (tb_nt e)), hv]
        obtain ⟨K, k1, k2, k3, k4⟩ := ih (i + 1) (xu J 70 a (mmin (mf D a V i) (cs D i a + V (a ||| 2 ^ i)))) (by omega) (by omega) (hC.c (xu_ne (by decide)) (xu_ne (by decide))) (fun b hb => by rw [xu_rn hb]; exact hW b hb) (by rw [xu_rr, hs]; rfl)
        exact ⟨K, k1, fun c hc => by rw [k2 c hc, xu_ne hc], k3, k4⟩
theorem fb27 {n : Nat} (hD : WD D) (hn : n ≤ 8) : ∀ f p (J : HI), p ≤ 2 ^ n - 1 → p < f → CR D J → (∀ a, p ≤ a → a < 2 ^ n → bv D n (J 70) a) → ∃ K, L_Sets_findBestOrder_27 (nI n) f (nI p - 1) J = some K ∧ (∀ c, c ≠ 70 → K c = J c) ∧ (∀ a, a < 2 ^ n → bv D n (K 70) a) := by
  have h256 := lt_p2 n (by omega)
  intro f
  induction f with
  | zero => intro p J _ h; omega
  | succ f ih =>
    intro p J hp hf hC h2
    rw [L_Sets_findBestOrder_27]
    cases p with
    | zero =>
      rw [if_pos m1_neg]
      exact ⟨J, rfl, fun _ _ => rfl, fun a ha => h2 a (by omega) ha⟩
    | succ p =>
      rw [nI_pred, if_neg (nI_pos (by omega)), sub1, grd_t (bnd_nI (by omega) (by omega)), nI_clamp (by omega)]
      simp only [lt_def]
      obtain ⟨K, k1, k2, k3, k4⟩ := fb44 (V := J 70) hD hn (a := p) (by omega) 1000 0 (xu J 70 p 1000000) (by omega) (by omega) (hC.c (xu_ne (by decide)) (xu_ne (by decide))) (fun b hb => by rw [xu_rn hb]) (by rw [xu_rr]; rfl)
      rw [show (0 : Int32) = nI 0 from rfl, k1, Option.bind_some]
      obtain ⟨M, m1, m2, m3⟩ := ih p K (by omega) (by omega) ((hC.c (xu_ne (by decide)) (xu_ne (by decide))).c (k2 65 (by decide)) (k2 67 (by decide))) (fun a ha ha2 => by
        unfold bv
        rw [mf_c (V := K 70) (V' := J 70) ha2 (fun b _ hb => k3 b (by omega)) _ (Nat.le_refl _)]
        by_cases e : a = p
        · subst e
          rw [k4, if_neg (by omega)]
        · rw [k3 a e]
          exact h2 a (by omega) ha2)
      exact ⟨M, m1, fun c hc => by rw [m2 c hc, k2 c hc, xu_ne hc], m3⟩
theorem fob_c {n a : Nat} (hD : WD D) (hn : n ≤ 8) (ha : a < 2 ^ n) (hC : CR D J) (hV : ∀ b, b < 2 ^ n → J 70 b = V b) (hex : fsb D V a < n ∧ fP D V a (fsb D V a) ∧ ∀ k, k < fsb D V a → ¬ fP D V a k) : M_Sets_firstOfBest J (nI a) (nI n) = some (nI (fsb D V a)) := by
  have h256 := lt_p2 n (by omega)
  have key := srch (fun f i => L_Sets_firstOfBest_2 (nI a) (nI n) J f (nI i)) n (fP D V a) (fun i => (0, nI i)) (1, nI n) ?_ ?_ ?_ 1000 0 (by omega) (by omega)
  · unfold M_Sets_firstOfBest
    rcases key with ⟨j, j1, j2, j3, j4, j5⟩ | ⟨j1, j2⟩
    · rw [show L_Sets_firstOfBest_2 (nI a) (nI n) J 1000 0 = some (0, nI j) from j5, Option.bind_some, if_pos rfl, fsb_eq j3 (fun i hi => j4 i (by omega) hi)]
    · exact absurd hex.2.1 (j1 _ (by omega) hex.1)
  · intro f i hi hp
    show L_Sets_firstOfBest_2 (nI a) (nI n) J (f + 1) (nI i) = _
    rw [L_Sets_firstOfBest_2, if_neg (nI_ge hi (by omega)), has_eq (by omega) (by omega), nI_1]
    by_cases e : a.testBit i = true
    · rw [if_pos e, if_neg one0]
    · have ho := or_lt ha hi
      rw [if_neg e, if_pos rfl, lossOf_c hD (by omega) (by omega) hC.1 hC.2, Option.bind_some, mk_set a (by omega) i (by omega), grd_t (bnd_nI (by omega) (by omega)), grd_t (bnd_nI (by omega) (by omega)), nI_clamp (by omega), nI_clamp (by omega), hV _ ho, hV a ha, if_neg (fun e' => hp ⟨tb_nt e, e'⟩)]
  · intro f i hi hp
    have ho := or_lt ha hi
    show L_Sets_firstOfBest_2 (nI a) (nI n) J (f + 1) (nI i) = _
    rw [L_Sets_firstOfBest_2, if_neg (nI_ge hi (by omega)), has_eq (by omega) (by omega), hp.1, if_neg (show ¬ (false = true) by decide), if_pos rfl, lossOf_c hD (by omega) (by omega) hC.1 hC.2, Option.bind_some, mk_set a (by omega) i (by omega), grd_t (bnd_nI (by omega) (by omega)), grd_t (bnd_nI (by omega) (by omega)), nI_clamp (by omega), nI_clamp (by omega), hV _ ho, hV a ha, if_pos hp.2]
  · intro f
    show L_Sets_firstOfBest_2 (nI a) (nI n) J (f + 1) (nI n) = _
    rw [L_Sets_firstOfBest_2, if_pos (nI_le (Nat.le_refl _) (by omega))]
theorem fb116 {n : Nat} (hD : WD D) (hn : n ≤ 8) (hb : ∀ a, a < 2 ^ n → bv D n V a) : ∀ f i (J : HI), i ≤ n → n - i < f → CR D J → (∀ b, b < 2 ^ n → J 70 b = V b) → (∀ k, k < i → J 64 k = nI (fsb D V (mkk D V k))) → ∃ K, L_Sets_findBestOrder_116 (nI n) f (nI (mkk D V i)) (nI i) J = some K ∧ (∀ c, c ≠ 64 → K c = J c) ∧ (∀ k, k < n → K 64 k = nI (fsb D V (mkk D V k))) := by
  have h256 := lt_p2 n (by omega)
  intro f
  induction f with
  | zero => intro i J _ h; omega
  | succ f ih =>
    intro i J hi hf hC hV hI
    rw [L_Sets_findBestOrder_116]
    by_cases h : n ≤ i
    · rw [if_pos (nI_le h (by omega))]
      exact ⟨J, rfl, fun _ _ => rfl, fun k hk => hI k (by omega)⟩
    · obtain ⟨q1, q2, q3⟩ := mkk_p hD hn hb i (by omega)
      have q4 := q3 (by omega)
      rw [if_neg (nI_ge (by omega) (by omega)), fob_c hD hn q1 hC hV q4, Option.bind_some, grd_t (bnd_nI (by omega) (by omega)), nI_clamp (by omega)]
      simp only [lt_def]
      rw [xu_rr, mk_set _ (by omega) _ (by omega), ← mkk_s, nI_1]
      obtain ⟨K, k1, k2, k3⟩ := ih (i + 1) (xu J 64 i (nI (fsb D V (mkk D V i)))) (by omega) (by omega) (hC.c (xu_ne (by decide)) (xu_ne (by decide))) (fun b hb => by rw [xu_ne (by decide)]; exact hV b hb) (fun k hk => by
        by_cases e : k = i
        · subst e; rw [xu_rr]
        · rw [xu_rn e]; exact hI k (by omega))
      exact ⟨K, k1, fun c hc => by rw [k2 c hc, xu_ne hc], k3⟩
theorem all_pred {n : Nat} : nI (2 ^ n - 1) = nI (2 ^ n) - 1 := by
  have hpos := Nat.two_pow_pos n
  rw [show nI (2 ^ n) = nI (2 ^ n - 1 + 1) by rw [Nat.sub_add_cancel hpos], nI_pred]
theorem best_c (h : Rel B L xs C I) : ∃ K, M_Sets_findBestOrder C I = some K ∧ fr [19, 24, 64, 65, 67, 70] I K ∧ (∀ a, a < 2 ^ nS (I 89) → bv (I 89) (nS (I 89)) (K 70) a) ∧ (∀ k, k < nS (I 89) → K 64 k = nI (fsb (I 89) (K 70) (mkk (I 89) (K 70) k))) := by
  have n8 := h.n8
  have h256 := lt_p2 (nS (I 89)) (by omega)
  have hpos := Nat.two_pow_pos (nS (I 89))
  obtain ⟨K, k1, k2, k3, k4⟩ := losses_c h
  have k11 : K 1 1 = nI (nS (I 89)) := by rw [k2 1 (by decide)]; exact st_nI h
  have hC : CR (I 89) (xu K 70 (2 ^ nS (I 89) - 1) 0) := ⟨fun s hs => by rw [xu_ne (by decide)]; exact k3 s hs, fun u w hu hw => by rw [xu_ne (by decide)]; exact k4 u w hu hw⟩
  obtain ⟨M, m1, m2, m3⟩ := fb27 (D := I 89) h.2.1 n8 1000 (2 ^ nS (I 89) - 1) (xu K 70 (2 ^ nS (I 89) - 1) 0) (by omega) (by omega) hC (fun a ha ha2 => by
    obtain rfl : a = 2 ^ nS (I 89) - 1 := by omega
    unfold bv
    rw [xu_rr, if_pos rfl])
  obtain ⟨P, p1, p2, p3⟩ := fb116 (D := I 89) (V := M 70) h.2.1 n8 m3 1000 0 M (by omega) (by omega) (hC.c (m2 65 (by decide)) (m2 67 (by decide))) (fun _ _ => rfl) (fun k hk => by omega)
  have p70 := p2 70 (by decide)
  refine ⟨P, ?_, ?_, fun a ha => by rw [p70]; exact m3 a ha, fun k hk => by rw [p70]; exact p3 k hk⟩
  · unfold M_Sets_findBestOrder
    simp only [lt_def]
    rw [k1, Option.bind_some, all_c n8 k11, grd_t (bnd_nI (by omega) (by omega)), nI_clamp (by omega), k11, m1, Option.bind_some, show (0 : Int32) = nI 0 from rfl]
    rw [show L_Sets_findBestOrder_116 (nI (nS (I 89))) 1000 (nI 0) (nI 0) M = some P from p1, Option.bind_some]
  · intro c hc
    rw [p2 c (fun e => hc (by simp [e])), m2 c (fun e => hc (by simp [e])), xu_ne (fun e => hc (by simp [e])), k2 c (fun hm => hc (by revert hm; simp; omega))]
/-! the reference -/
theorem mb30 {a : Nat} (hD : WD D) (ha : a < 2 ^ nS D) : ∀ f i (J : HI), i ≤ nS D → nS D - i < f → J 89 = D → (∀ b, b ≠ a → J 96 b = V b) → J 96 a = mf D a V i → ∃ K, L_Model_findBest_30 (nI a) f (nI i) J = some K ∧ fr [88, 92, 96] J K ∧ fk [4, 5, 6, 7, 8, 9] J K ∧ (∀ b, b ≠ a → K 96 b = V b) ∧ K 96 a = mf D a V (nS D) := by
  have n8 := hD.1.2
  have h256 := lt_p2 (nS D) (by omega)
  intro f
  induction f with
  | zero => intro i J _ h; omega
  | succ f ih =>
    intro i J hi hf h89 hW hv
    rw [L_Model_findBest_30, h89, hD.1.1]
    by_cases h : nS D ≤ i
    · rw [if_pos (nI_le h (by omega))]
      obtain rfl : i = nS D := by omega
      exact ⟨J, rfl, fr.refl, fk.refl, hW, hv⟩
    · have hs := mf_s (D := D) (V := V) a i
      rw [if_neg (nI_ge (by omega) (by omega)), mk_bit a (by omega) i (by omega), nI_1]
      by_cases e : a.testBit i = true
      · rw [if_pos e, if_neg one0]
        rw [if_pos e] at hs
        exact ih (i + 1) J (by omega) (by omega) h89 hW (by rw [hs]; exact hv)
      · have ho := or_lt ha (show i < nS D by omega)
        rw [if_neg e] at hs
        obtain ⟨M, m1, m2, m3⟩ := costs_m hD (s := i) (a := a) (J := J) (by omega) (by omega) h89
        rw [if_neg e, if_pos rfl, m1, Option.bind_some, mk_set a (by omega) i (by omega), grd_t (bnd_nI (by omega) (by omega))]
        simp only [lt_def]
        rw [grd_t (bnd_nI (by omega) (by omega)), nI_clamp (by omega), nI_clamp (by omega)]
        have eM1 : M 96 a = mf D a V i := by rw [m2 96 (by decide)]; exact hv
        have eM2 : M 96 (a ||| 2 ^ i) = V (a ||| 2 ^ i) := by rw [m2 96 (by decide)]; exact hW _ (or_ne (tb_nt e))
        have step : ∀ v, v = mf D a V (i + 1) → ∃ K, L_Model_findBest_30 (nI a) f (nI (i + 1)) (xu M 96 a v) = some K ∧ fr [88, 92, 96] J K ∧ fk [4, 5, 6, 7, 8, 9] J K ∧ (∀ b, b ≠ a → K 96 b = V b) ∧ K 96 a = mf D a V (nS D) := by
          intro v hv'
          obtain ⟨K, k1, k2, k3, k4, k5⟩ := ih (i + 1) (xu M 96 a v) (by omega) (by omega) (by rw [xu_ne (by decide), m2 89 (by decide)]; exact h89) (fun b hb => by rw [xu_rn hb, m2 96 (by decide)]; exact hW b hb) (by rw [xu_rr]; exact hv')
          exact ⟨K, k1, fr.trans (fr.wr (by decide) (fr.sub (by decide) m2)) k2, fk.trans (fk.wr0 (by decide) m3) k3, k4, k5⟩
        by_cases c : M 96 a ≤ cs D i a + M 96 (a ||| 2 ^ i)
        · rw [if_pos c]
          rw [eM1, eM2, i_le] at c
          exact step _ (by rw [eM1, hs, if_neg (by rw [i_lt]; omega)])
        · rw [if_neg c]
          rw [eM1, eM2, i_le] at c
          exact step _ (by rw [eM2, hs, if_pos (by rw [i_lt]; omega)])
theorem mb16 (hD : WD D) : ∀ f p (J : HI), p ≤ 2 ^ nS D - 1 → p < f → J 89 = D → (∀ a, p ≤ a → a < 2 ^ nS D → bv D (nS D) (J 96) a) → ∃ K, L_Model_findBest_16 f (nI p - 1) J = some K ∧ fr [88, 92, 96] J K ∧ fk [4, 5, 6, 7, 8, 9] J K ∧ (∀ a, a < 2 ^ nS D → bv D (nS D) (K 96) a) := by
  have n8 := hD.1.2
  have h256 := lt_p2 (nS D) (by omega)
  intro f
  induction f with
  | zero => intro p J _ h; omega
  | succ f ih =>
    intro p J hp hf h89 h2
    rw [L_Model_findBest_16]
    cases p with
    | zero =>
      rw [if_pos m1_neg]
      exact ⟨J, rfl, fr.refl, fk.refl, fun a ha => h2 a (by omega) ha⟩
    | succ p =>
      rw [nI_pred, if_neg (nI_pos (by omega)), sub1, grd_t (bnd_nI (by omega) (by omega)), nI_clamp (by omega)]
      simp only [lt_def]
      obtain ⟨K, k1, k2, k2', k3, k4⟩ := mb30 (V := J 96) hD (a := p) (by omega) 1000 0 (xu J 96 p 1000000) (by omega) (by omega) (by rw [xu_ne (by decide)]; exact h89) (fun b hb => by rw [xu_rn hb]) (by rw [xu_rr]; rfl)
      rw [show (0 : Int32) = nI 0 from rfl, k1, Option.bind_some]
      obtain ⟨M, m1, m2, m2', m3⟩ := ih p K (by omega) (by omega) (by rw [k2 89 (by decide), xu_ne (by decide)]; exact h89) (fun a ha ha2 => by
        unfold bv
        rw [mf_c (V := K 96) (V' := J 96) ha2 (fun b _ hb => k3 b (by omega)) _ (Nat.le_refl _)]
        by_cases e : a = p
        · subst e
          rw [k4, if_neg (by omega)]
        · rw [k3 a e]
          exact h2 a (by omega) ha2)
      exact ⟨M, m1, fr.trans (fr.trans (fr.wr (by decide) fr.refl) k2) m2, fk.trans (fk.trans (fk.wr0 (by decide) fk.refl) k2') m2', m3⟩
theorem mb124 {a j : Nat} {x3 : Int32} (hD : WD D) (ha : a < 2 ^ nS D) (hj : j < nS D) (hP : fP D V a j) : ∀ f i (J : HI), i ≤ j → j - i < f → J 89 = D → (∀ b, b < 2 ^ nS D → J 96 b = V b) → (∀ k, i ≤ k → k < j → ¬ fP D V a k) → ∃ K, L_Model_findBest_124 (nI a) x3 f (nI i) J = some (nI j, K) ∧ fr [88, 92] J K ∧ fk [4, 5, 6, 7, 8, 9] J K := by
  have n8 := hD.1.2
  have h256 := lt_p2 (nS D) (by omega)
  intro f
  induction f with
  | zero => intro i J _ h; omega
  | succ f ih =>
    intro i J hi hf h89 hV hn
    rw [L_Model_findBest_124, mk_bit a (by omega) i (by omega), nI_1]
    by_cases e : a.testBit i = true
    · have hij : i ≠ j := by rintro rfl; rw [hP.1] at e; cases e
      rw [if_pos e, if_pos rfl]
      exact ih (i + 1) J (by omega) (by omega) h89 hV (fun k h1 h2 => hn k (by omega) h2)
    · have ho := or_lt ha (show i < nS D by omega)
      obtain ⟨M, m1, m2, m3⟩ := costs_m hD (s := i) (a := a) (J := J) (by omega) (by omega) h89
      rw [if_neg e, if_neg (show ¬ (0 : Int32) = 1 by decide), m1, Option.bind_some, mk_set a (by omega) i (by omega), grd_t (bnd_nI (by omega) (by omega)), grd_t (bnd_nI (by omega) (by omega)), nI_clamp (by omega), nI_clamp (by omega)]
      simp only []
      rw [m2 96 (by decide), hV _ ho, hV a ha]
      by_cases c : cs D i a + V (a ||| 2 ^ i) = V a
      · have hij : i = j := by
          rcases Nat.lt_or_ge i j with h | h
          · exact absurd ⟨tb_nt e, c⟩ (hn i (Nat.le_refl _) h)
          · omega
        subst hij
        rw [if_pos c]
        exact ⟨M, rfl, m2, m3⟩
      · have hij : i ≠ j := by rintro rfl; exact c hP.2
        rw [if_neg c]
        obtain ⟨K, k1, k2, k3⟩ := ih (i + 1) M (by omega) (by omega) (by rw [m2 89 (by decide)]; exact h89) (fun b hb => by rw [m2 96 (by decide)]; exact hV b hb) (fun k h1 h2 => hn k (by omega) h2)
        exact ⟨K, k1, fr.trans m2 k2, fk.trans m3 k3⟩
theorem mb111 (hD : WD D) (hb : ∀ a, a < 2 ^ nS D → bv D (nS D) V a) : ∀ f i (J : HI), i ≤ nS D → nS D - i < f → J 89 = D → (∀ b, b < 2 ^ nS D → J 96 b = V b) → (∀ k, k < i → J 97 k = nI (fsb D V (mkk D V k))) → ∃ K, L_Model_findBest_111 f (nI (mkk D V i)) (nI i) J = some K ∧ fr [88, 92, 97] J K ∧ fk [4, 5, 6, 7, 8, 9] J K ∧ (∀ k, k < nS D → K 97 k = nI (fsb D V (mkk D V k))) := by
  have n8 := hD.1.2
  have h256 := lt_p2 (nS D) (by omega)
  intro f
  induction f with
  | zero => intro i J _ h; omega
  | succ f ih =>
    intro i J hi hf h89 hV hI
    rw [L_Model_findBest_111, h89, hD.1.1]
    by_cases h : nS D ≤ i
    · rw [if_pos (nI_le h (by omega))]
      exact ⟨J, rfl, fr.refl, fk.refl, fun k hk => hI k (by omega)⟩
    · obtain ⟨q1, q2, q3⟩ := mkk_p hD n8 hb i (by omega)
      obtain ⟨q4, q5, q6⟩ := q3 (by omega)
      obtain ⟨M, m1, m2, m3⟩ := mb124 (x3 := nI i) hD q1 q4 q5 1000 0 J (by omega) (by omega) h89 hV (fun k _ hk => q6 k hk)
      rw [if_neg (nI_ge (by omega) (by omega)), show (0 : Int32) = nI 0 from rfl, m1, Option.bind_some, grd_t (bnd_nI (by omega) (by omega)), nI_clamp (by omega)]
      simp only [lt_def]
      rw [mk_set _ (by omega) _ (by omega), ← mkk_s, nI_1]
      obtain ⟨K, k1, k2, k3, k4⟩ := ih (i + 1) (xu M 97 i (nI (fsb D V (mkk D V i)))) (by omega) (by omega) (by rw [xu_ne (by decide), m2 89 (by decide)]; exact h89) (fun b hb => by rw [xu_ne (by decide), m2 96 (by decide)]; exact hV b hb) (fun k hk => by
        by_cases e : k = i
        · subst e; rw [xu_rr]
        · rw [xu_rn e, m2 97 (by decide)]; exact hI k (by omega))
      exact ⟨K, k1, fr.trans (fr.wr (by decide) (fr.sub (by decide) m2)) k2, fk.trans (fk.wr0 (by decide) m3) k3, k4⟩
theorem best_m (hD : WD D) (h89 : J 89 = D) (hb : ∀ a, a < 2 ^ nS D → bv D (nS D) V a) : ∃ K, M_Model_findBest J = some (V 0, K) ∧ fr [88, 92, 96, 97] J K ∧ fk [4, 5, 6, 7, 8, 9] J K ∧ (∀ k, k < nS D → K 97 k = nI (fsb D V (mkk D V k))) := by
  have n8 := hD.1.2
  have h256 := lt_p2 (nS D) (by omega)
  have hpos := Nat.two_pow_pos (nS D)
  obtain ⟨M, m1, m2, m3, m4⟩ := mb16 (D := D) hD 1000 (2 ^ nS D - 1) (xu J 96 (2 ^ nS D - 1) 0) (by omega) (by omega) (by rw [xu_ne (by decide)]; exact h89) (fun a ha ha2 => by
    obtain rfl : a = 2 ^ nS D - 1 := by omega
    unfold bv
    rw [xu_rr, if_pos rfl])
  have hVM : ∀ b, b < 2 ^ nS D → M 96 b = V b := fun b hb' => bv_uni m4 hb _ b (Nat.le_refl _) hb'
  obtain ⟨P, p1, p2, p3, p4⟩ := mb111 (V := V) hD hb 1000 0 M (by omega) (by omega) (by rw [m2 89 (by decide), xu_ne (by decide)]; exact h89) hVM (fun k hk => by omega)
  refine ⟨P, ?_, fr.trans (fr.trans (fr.wr (by decide) fr.refl) (fr.sub (by decide) m2)) (fr.sub (by decide) p2), fk.trans (fk.trans (fk.wr0 (by decide) fk.refl) m3) p3, p4⟩
  unfold M_Model_findBest
  simp only [lt_def]
  rw [all_m hD h89, grd_t (bnd_nI (by omega) (by omega)), nI_clamp (by omega), m1, Option.bind_some, show (0 : Int32) = nI 0 from rfl]
  rw [show L_Model_findBest_111 1000 (nI 0) (nI 0) M = some P from p1, Option.bind_some, p2 96 (by decide), hVM 0 hpos]
theorem ok_best (h : Rel B L xs C I) (x : Int32) : OK1 B L xs C (M_H_best C I x) (fun J => M_Model_best J x) := by
  have n8 := h.n8
  unfold M_H_best M_Model_best
  simp only [bsome]
  rcases ix_case x (nS (I 89)) (by omega) with ⟨s, hs, rfl⟩ | hx
  · obtain ⟨J, j1, j2, j3, j4⟩ := best_c h
    have h89 : J 89 = I 89 := j2 89 (by decide)
    obtain ⟨K, k1, k2, k3, k4⟩ := best_m (D := I 89) (J := J) h.2.1 h89 j3
    refine ok_val h (v := nI (fsb (I 89) (J 70) (mkk (I 89) (J 70) s))) (J := J) (K := K) ?_ j2 (by decide) (by decide) ?_ k2 (by decide) (k3 2 (by decide)) (k3 21 (by decide))
    · rw [hasS_y (st_nI h) (by omega) hs, if_neg one0, j1, Option.bind_some, grd_t (bnd_nI (by omega) (by omega)), nI_clamp (by omega), j4 s hs]
    · show (if M_Model_in _ _ (J 89 0 - 1).toInt64 = 0 then _ else _) = _
      rw [h89, mS_nI h, inI_y hs (by omega), if_neg one0, k1, Option.bind_some, grd_t (bnd_nI (by omega) (by omega)), nI_clamp (by omega), ← k4 s hs]
  · refine err_ok0 1 (by decide) (by decide) h ?_ ?_
    · rw [hasS_n (st_nI h) (by omega) hx, if_pos rfl]; rfl
    · show (if M_Model_in _ _ (xu I 87 1 _ 89 0 - 1).toInt64 = 0 then _ else _) = _
      rw [xu_qn (by decide), mS_nI h, inI _ (by omega), if_neg hx, if_pos rfl]; rfl
/-! which looks -/
theorem nh19 (h : Rel B L xs C I) {a i b : Nat} (ha : a < 256) (hi : i < 8) (hb : b < 8) (hJ : ∀ c, c ∉ SCR → J c = I c) (h89 : K 89 = I 89) (h64 : J 64 i = nI b) (h97 : K 97 i = nI b) : ∀ f l (x : Int32), l ≤ nL (I 89) → nL (I 89) - l < f → ∃ v, L_Sets_looksNotHeld_19 (nI a) (nI i) J f x (nI l) = some v ∧ L_Model_whichWrong_19 (nI a) (nI i) K f x (nI l) = some v := by
  have n8 := h.n8
  have l12 := h.2.1.2.1.2
  intro f
  induction f with
  | zero => intro l x _ h; omega
  | succ f ih =>
    intro l x hl hf
    rw [L_Sets_looksNotHeld_19, L_Model_whichWrong_19, hJ 1 (by decide), lk_nI h, h89, mL_nI h]
    by_cases e : nL (I 89) ≤ l
    · have hc : nI (nL (I 89)) ≤ nI l := nI_le e (by omega)
      rw [if_pos hc, if_pos hc]
      exact ⟨x, rfl, rfl⟩
    · have hc : ¬ nI (nL (I 89)) ≤ nI l := nI_ge (by omega) (by omega)
      obtain ⟨g1, g2, g3, g4, g5⟩ := uL_eq h.2.1 (l := l) (by omega)
      obtain ⟨a1, a2, -, -, -⟩ := lk_c h hJ (l := l) (by omega)
      rw [if_neg hc, if_neg hc, upper_m (by omega), lower_m (by omega), Option.bind_some, Option.bind_some, h89, g1, g2, grd_t (bnd_nI (show l < 12 by omega) (by omega)), grd_t (bnd_nI hi (by omega)), grd_t (bnd_nI hi (by omega)), nI_clamp (show l < 2 ^ 31 by omega), nI_clamp (show i < 2 ^ 31 by omega), a1, a2, h64, h97, has_eq ha (by omega), mk_bit a ha _ (by omega), nI_1, Int32.or_zero]
      by_cases e1 : nI (uL (I 89) l) = nI b
      · rw [if_pos e1, if_pos e1]
        cases e2 : a.testBit (lL (I 89) l)
        · rw [if_neg (show ¬ (false = true) by decide), if_pos rfl, if_pos rfl]
          exact ih (l + 1) _ (by omega) (by omega)
        · rw [if_pos rfl, if_neg one0, if_neg one0]
          exact ih (l + 1) x (by omega) (by omega)
      · rw [if_neg e1, if_neg e1]
        exact ih (l + 1) x (by omega) (by omega)
theorem nh7 (h : Rel B L xs C I) (hb : ∀ a, a < 2 ^ nS (I 89) → bv (I 89) (nS (I 89)) V a) (hJ : ∀ c, c ∉ SCR → J c = I c) (h89 : K 89 = I 89) (h64 : ∀ k, k < nS (I 89) → J 64 k = nI (fsb (I 89) V (mkk (I 89) V k))) (h97 : ∀ k, k < nS (I 89) → K 97 k = nI (fsb (I 89) V (mkk (I 89) V k))) : ∀ f i (x : Int32), i ≤ nS (I 89) → nS (I 89) - i < f → ∃ v, L_Sets_looksNotHeld_7 J f x (nI (mkk (I 89) V i)) (nI i) = some v ∧ L_Model_whichWrong_6 K f (nI (mkk (I 89) V i)) x (nI i) = some v := by
  have n8 := h.n8
  have l12 := h.2.1.2.1.2
  have h256 := lt_p2 (nS (I 89)) (by omega)
  intro f
  induction f with
  | zero => intro l x _ h; omega
  | succ f ih =>
    intro i x hi hf
    rw [L_Sets_looksNotHeld_7, L_Model_whichWrong_6, hJ 1 (by decide), st_nI h, h89, mS_nI h]
    by_cases e : nS (I 89) ≤ i
    · have hc : nI (nS (I 89)) ≤ nI i := nI_le e (by omega)
      rw [if_pos hc, if_pos hc]
      exact ⟨x, rfl, rfl⟩
    · have hc : ¬ nI (nS (I 89)) ≤ nI i := nI_ge (by omega) (by omega)
      obtain ⟨q1, q2, q3⟩ := mkk_p h.2.1 n8 hb i (by omega)
      obtain ⟨q4, q5, q6⟩ := q3 (by omega)
      obtain ⟨v, v1, v2⟩ := nh19 h (a := mkk (I 89) V i) (i := i) (b := fsb (I 89) V (mkk (I 89) V i)) (J := J) (K := K) (by omega) (by omega) (by omega) hJ h89 (h64 i (by omega)) (h97 i (by omega)) 1000 0 x (by omega) (by omega)
      rw [if_neg hc, if_neg hc, show (0 : Int32) = nI 0 from rfl, v1, v2, Option.bind_some, Option.bind_some, grd_t (bnd_nI (show i < 8 by omega) (by omega)), grd_t (bnd_nI (show i < 8 by omega) (by omega)), nI_clamp (by omega), h64 i (by omega), h97 i (by omega)]
      simp only [lt_def]
      rw [mk_set _ (by omega) _ (by omega), ← mkk_s, nI_1]
      exact ih (i + 1) v (by omega) (by omega)
theorem ok_wrong (h : Rel B L xs C I) (x : Int32) : OK1 B L xs C (M_H_wrong C I x) (fun J => M_Model_wrong_ J x) := by
  have n8 := h.n8
  have hpos := Nat.two_pow_pos (nS (I 89))
  unfold M_H_wrong M_Model_wrong_
  simp only [bsome, in_nat x (a := 0) (b := 1) (by decide) (by decide), within_eq]
  by_cases hx : ((0 : Nat) : Int) ≤ x.toInt ∧ x.toInt ≤ ((1 : Nat) : Int)
  · have hx' : 0 ≤ x.toInt ∧ x.toInt ≤ (1 : Int32).toInt := hx
    simp only [if_pos hx, if_pos hx', if_neg one0]
    obtain ⟨J, j1, j2, j3, j4⟩ := best_c h
    have h89 : J 89 = I 89 := j2 89 (by decide)
    obtain ⟨K, k1, k2, k3, k4⟩ := best_m (D := I 89) (J := J) h.2.1 h89 j3
    by_cases e : x = 0
    · refine ok_val h (v := J 70 0) (J := J) (K := K) ?_ j2 (by decide) (by decide) ?_ k2 (by decide) (k3 2 (by decide)) (k3 21 (by decide))
      · rw [j1, Option.bind_some, if_pos e]; rfl
      · show Option.bind (M_Model_findBest J) _ = _
        rw [k1, Option.bind_some, if_pos e]
    · obtain ⟨v, v1, v2⟩ := nh7 h (V := J 70) (J := J) (K := K) j3 (fun c hc => j2 c (n_scr (by decide) hc)) (by rw [k2 89 (by decide)]; exact h89) j4 k4 1000 0 0 (by omega) (by omega)
      refine ok_val h (v := v) (J := J) (K := K) ?_ j2 (by decide) (by decide) ?_ k2 (by decide) (k3 2 (by decide)) (k3 21 (by decide))
      · rw [j1, Option.bind_some, if_neg e]
        unfold M_Sets_looksNotHeld
        rw [show L_Sets_looksNotHeld_7 J 1000 0 0 0 = some v from v1]; rfl
      · show Option.bind (M_Model_findBest J) _ = _
        rw [k1, Option.bind_some, if_neg e]
        unfold M_Model_whichWrong
        rw [show L_Model_whichWrong_6 K 1000 0 0 0 = some v from v2]; rfl
  · have hx' : ¬ (0 ≤ x.toInt ∧ x.toInt ≤ (1 : Int32).toInt) := hx
    simp only [if_neg hx, if_neg hx', if_pos rfl]
    exact err_ok0 1 (by decide) (by decide) h rfl rfl
end RBST
