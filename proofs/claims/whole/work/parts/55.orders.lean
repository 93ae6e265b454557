/-! in how many ways a set comes to lie -/
def inn (D : Nat → Int32) (k : Nat) : Nat → (Nat → Int32) → (Nat → Int32)
  | 0, W => W
  | i + 1, W => if may D i k = true then upd (inn D k i W) (k ||| 2 ^ i) (inn D k i W (k ||| 2 ^ i) + inn D k i W k) else inn D k i W
def out (D : Nat → Int32) (n : Nat) : Nat → (Nat → Int32) → (Nat → Int32)
  | 0, W => W
  | k + 1, W => inn D k n (out D n k W)
def w0 (a : Nat) : Int32 := if a = 0 then 1 else 0
section RQ
variable {B L : Nat} {xs : Nat → Int32} {C : HC} {I J K : HI} {D : Nat → Int32}
theorem inn_s (k i : Nat) (W : Nat → Int32) : inn D k (i + 1) W = if may D i k = true then upd (inn D k i W) (k ||| 2 ^ i) (inn D k i W (k ||| 2 ^ i) + inn D k i W k) else inn D k i W := rfl
theorem out_s (n k : Nat) (W : Nat → Int32) : out D n (k + 1) W = inn D k n (out D n k W) := rfl
theorem may_b {i k : Nat} (h : may D i k = true) : k.testBit i = false := by
  unfold may at h
  cases e : k.testBit i
  · rfl
  · rw [e] at h; cases h
theorem or_ne {i k : Nat} (h : k.testBit i = false) : k ||| 2 ^ i ≠ k := by
  intro e
  have : (k ||| 2 ^ i).testBit i = true := by rw [tb_set]; simp
  rw [e, h] at this
  cases this
theorem inn_k (k : Nat) (W : Nat → Int32) : ∀ i, inn D k i W k = W k := by
  intro i
  induction i with
  | zero => rfl
  | succ i ih =>
    rw [inn_s]
    by_cases h : may D i k = true
    · rw [if_pos h, pk_un (fun e => or_ne (may_b h) e.symm)]; exact ih
    · rw [if_neg h]; exact ih
theorem inn_0 (k : Nat) (W : Nat → Int32) (h0 : W k = 0) : ∀ i, inn D k i W = W := by
  intro i
  induction i with
  | zero => rfl
  | succ i ih =>
    rw [inn_s, ih]
    split
    · funext a
      by_cases e : a = k ||| 2 ^ i
      · subst e; rw [pk_us, h0, Int32.add_zero]
      · rw [pk_un e]
    · rfl
/-- nothing comes on all -/
theorem may_all {n i : Nat} (hi : i < n) : may D i (2 ^ n - 1) = false := by
  unfold may
  rw [Nat.testBit_two_pow_sub_one]
  simp [hi]
theorem inn_all (n : Nat) (W : Nat → Int32) : ∀ i, i ≤ n → inn D (2 ^ n - 1) i W = W := by
  intro i
  induction i with
  | zero => intro _; rfl
  | succ i ih =>
    intro hi
    rw [inn_s, may_all (n := n) (by omega), if_neg (by decide)]
    exact ih (by omega)
theorem or_ge (k i : Nat) : k ≤ k ||| 2 ^ i := Nat.left_le_or
theorem cw62 (hD : WD D) {k : Nat} {x1 : Int32} (hk : k < 2 ^ nS D) (W : Nat → Int32) : ∀ f i (J : HI), i ≤ nS D → nS D - i < f → J 89 = D → (∀ s, s < nS D → J 93 s = nI (blw D s)) → (∀ a, a < 2 ^ nS D → J 94 a = inn D k i W a) → ∃ K, L_Model_countWays_62 x1 (nI k) f (nI i) J = some K ∧ (∀ c, c ≠ 94 → K c = J c) ∧ (∀ a, a < 2 ^ nS D → K 94 a = inn D k (nS D) W a) := by
  have n8 := hD.1.2
  have h256 := lt_p2 (nS D) (by omega)
  intro f
  induction f with
  | zero => intro i J _ h; omega
  | succ f ih =>
    intro i J hi hf h89 h93 hW
    rw [L_Model_countWays_62, h89, hD.1.1]
    by_cases h : nS D ≤ i
    · rw [if_pos (nI_le h (by omega))]
      obtain rfl : i = nS D := by omega
      exact ⟨J, rfl, fun _ _ => rfl, hW⟩
    · rw [if_neg (nI_ge (by omega) (by omega)), may_m hD (by omega) (by omega) (h93 i (by omega)), Option.bind_some, nI_1]
      have hin := inn_s (D := D) k i W
      by_cases hm : may D i k = true
      · have ho := or_lt hk (show i < nS D by omega)
        rw [if_pos hm, if_neg one0, mk_set k (by omega) i (by omega), grd_t (bnd_nI (by omega) (by omega)), grd_t (bnd_nI (by omega) (by omega)), nI_clamp (by omega), nI_clamp (by omega)]
        rw [if_pos hm] at hin
        obtain ⟨K, k1, k2, k3⟩ := ih (i + 1) (xu J 94 (k ||| 2 ^ i) (J 94 (k ||| 2 ^ i) + J 94 k)) (by omega) (by omega) (by rw [xu_ne (by decide)]; exact h89) (fun s hs => by rw [xu_ne (by decide)]; exact h93 s hs) (fun a ha => by
          rw [hin, hW _ ho, hW k hk]
          by_cases e : a = k ||| 2 ^ i
          · subst e; rw [xu_rr, pk_us]
          · rw [xu_rn e, pk_un e]; exact hW a ha)
        exact ⟨K, k1, fun c hc => by rw [k2 c hc, xu_ne hc], k3⟩
      · rw [if_neg hm, if_pos rfl]
        rw [if_neg hm] at hin
        exact ih (i + 1) J (by omega) (by omega) h89 h93 (by rw [hin]; exact hW)
theorem cw55 (hD : WD D) : ∀ f k (J : HI), k ≤ 2 ^ nS D → 2 ^ nS D - k < f → J 89 = D → (∀ s, s < nS D → J 93 s = nI (blw D s)) → (∀ a, a < 2 ^ nS D → J 94 a = out D (nS D) k w0 a) → ∃ K, L_Model_countWays_55 (nI (2 ^ nS D - 1)) f (nI k) J = some K ∧ (∀ c, c ≠ 94 → K c = J c) ∧ (∀ a, a < 2 ^ nS D → K 94 a = out D (nS D) (2 ^ nS D) w0 a) := by
  have n8 := hD.1.2
  have h256 := lt_p2 (nS D) (by omega)
  have hpos := Nat.two_pow_pos (nS D)
  intro f
  induction f with
  | zero => intro i J _ h; omega
  | succ f ih =>
    intro k J hi hf h89 h93 hW
    rw [L_Model_countWays_55]
    by_cases h : 2 ^ nS D ≤ k
    · rw [if_pos (nI_lt (by omega) (by omega))]
      obtain rfl : k = 2 ^ nS D := by omega
      exact ⟨J, rfl, fun _ _ => rfl, hW⟩
    · rw [if_neg (nI_nlt (by omega) (by omega))]
      obtain ⟨K, k1, k2, k3⟩ := cw62 hD (x1 := nI (2 ^ nS D - 1)) (k := k) (by omega) (out D (nS D) k w0) 1000 0 J (by omega) (by omega) h89 h93 hW
      rw [show (0 : Int32) = nI 0 from rfl, k1, Option.bind_some, nI_1]
      obtain ⟨M, m1, m2, m3⟩ := ih (k + 1) K (by omega) (by omega) (by rw [k2 89 (by decide)]; exact h89) (fun s hs => by rw [k2 93 (by decide)]; exact h93 s hs) k3
      exact ⟨M, m1, fun c hc => by rw [m2 c hc, k2 c hc], m3⟩
/-! and the others on it -/
def osm (D : Nat → Int32) (k : Nat) (W : Nat → Int32) : Nat → Int32
  | 0 => 0
  | i + 1 => if may D i k = true then osm D k W i + W (k ||| 2 ^ i) else osm D k W i
theorem osm_s (k i : Nat) (W : Nat → Int32) : osm D k W (i + 1) = if may D i k = true then osm D k W i + W (k ||| 2 ^ i) else osm D k W i := rfl
theorem osm_c {k n : Nat} {W W' : Nat → Int32} (hk : k < 2 ^ n) (h : ∀ a, a < 2 ^ n → k < a → W a = W' a) : ∀ i, i ≤ n → osm D k W i = osm D k W' i := by
  intro i
  induction i with
  | zero => intro _; rfl
  | succ i ih =>
    intro hi
    rw [osm_s, osm_s, ih (by omega)]
    by_cases hm : may D i k = true
    · rw [if_pos hm, if_pos hm, h _ (or_lt hk (by omega)) (by
        have h1 := or_ge k i
        have h2 := or_ne (may_b hm)
        omega)]
    · rw [if_neg hm, if_neg hm]
theorem cw120 (hD : WD D) {k : Nat} (hk : k < 2 ^ nS D) (W : Nat → Int32) (v0 : Int32) : ∀ f i (J : HI), i ≤ nS D → nS D - i < f → J 89 = D → (∀ s, s < nS D → J 93 s = nI (blw D s)) → (∀ a, a ≠ k → J 95 a = W a) → J 95 k = v0 + osm D k W i → ∃ K, L_Model_countWays_120 (nI k) f (nI i) J = some K ∧ (∀ c, c ≠ 95 → K c = J c) ∧ (∀ a, a ≠ k → K 95 a = W a) ∧ K 95 k = v0 + osm D k W (nS D) := by
  have n8 := hD.1.2
  have h256 := lt_p2 (nS D) (by omega)
  intro f
  induction f with
  | zero => intro i J _ h; omega
  | succ f ih =>
    intro i J hi hf h89 h93 hW hv
    rw [L_Model_countWays_120, h89, hD.1.1]
    by_cases h : nS D ≤ i
    · rw [if_pos (nI_le h (by omega))]
      obtain rfl : i = nS D := by omega
      exact ⟨J, rfl, fun _ _ => rfl, hW, hv⟩
    · rw [if_neg (nI_ge (by omega) (by omega)), may_m hD (by omega) (by omega) (h93 i (by omega)), Option.bind_some, nI_1]
      have hin := osm_s (D := D) k i W
      by_cases hm : may D i k = true
      · have ho := or_lt hk (show i < nS D by omega)
        rw [if_pos hm, if_neg one0, mk_set k (by omega) i (by omega), grd_t (bnd_nI (by omega) (by omega)), grd_t (bnd_nI (by omega) (by omega)), nI_clamp (by omega), nI_clamp (by omega)]
        rw [if_pos hm] at hin
        obtain ⟨K, k1, k2, k3, k4⟩ := ih (i + 1) (xu J 95 k (J 95 k + J 95 (k ||| 2 ^ i))) (by omega) (by omega) (by rw [xu_ne (by decide)]; exact h89) (fun s hs => by rw [xu_ne (by decide)]; exact h93 s hs) (fun a ha => by rw [xu_rn ha]; exact hW a ha) (by rw [xu_rr, hin, hv, hW _ (or_ne (may_b hm)), Int32.add_assoc])
        exact ⟨K, k1, fun c hc => by rw [k2 c hc, xu_ne hc], k3, k4⟩
      · rw [if_neg hm, if_pos rfl]
        rw [if_neg hm] at hin
        exact ih (i + 1) J (by omega) (by omega) h89 h93 hW (by rw [hin]; exact hv)
/-- what the ways on must be -/
def onv (D : Nat → Int32) (n : Nat) (W : Nat → Int32) (a : Nat) : Prop := W a = (if a = 2 ^ n - 1 then 1 else 0) + osm D a W n
theorem sub1 (x : Int32) : x + (-1) = x - 1 := (Int32.sub_eq_add_neg x 1).symm
theorem m1_neg : nI 0 - 1 < (0 : Int32) := by decide
theorem cw114 (hD : WD D) : ∀ f p (J : HI), p ≤ 2 ^ nS D → p < f → J 89 = D → (∀ s, s < nS D → J 93 s = nI (blw D s)) → (∀ a, a < p → J 95 a = if a = 2 ^ nS D - 1 then 1 else 0) → (∀ a, p ≤ a → a < 2 ^ nS D → onv D (nS D) (J 95) a) → ∃ K, L_Model_countWays_114 f (nI p - 1) J = some K ∧ (∀ c, c ≠ 95 → K c = J c) ∧ (∀ a, a < 2 ^ nS D → onv D (nS D) (K 95) a) := by
  have n8 := hD.1.2
  have h256 := lt_p2 (nS D) (by omega)
  intro f
  induction f with
  | zero => intro p J _ h; omega
  | succ f ih =>
    intro p J hp hf h89 h93 h1 h2
    rw [L_Model_countWays_114]
    cases p with
    | zero =>
      rw [if_pos m1_neg]
      exact ⟨J, rfl, fun _ _ => rfl, fun a ha => h2 a (by omega) ha⟩
    | succ p =>
      rw [nI_pred, if_neg (nI_pos (by omega)), sub1]
      obtain ⟨K, k1, k2, k3, k4⟩ := cw120 hD (k := p) (by omega) (J 95) (if p = 2 ^ nS D - 1 then 1 else 0) 1000 0 J (by omega) (by omega) h89 h93 (fun _ _ => rfl) (by rw [h1 p (by omega)]; exact (Int32.add_zero _).symm)
      rw [show (0 : Int32) = nI 0 from rfl, k1, Option.bind_some]
      obtain ⟨M, m1, m2, m3⟩ := ih p K (by omega) (by omega) (by rw [k2 89 (by decide)]; exact h89) (fun s hs => by rw [k2 93 (by decide)]; exact h93 s hs) (fun a ha => by rw [k3 a (by omega)]; exact h1 a (by omega)) (fun a ha ha2 => by
        by_cases e : a = p
        · subst e
          unfold onv
          rw [k4, osm_c (W := K 95) (W' := J 95) ha2 (fun b _ hb => k3 b (by omega)) _ (Nat.le_refl _)]
        · have := h2 a (by omega) ha2
          unfold onv at this ⊢
          rw [k3 a e, osm_c (W := K 95) (W' := J 95) ha2 (fun b _ hb => k3 b (by omega)) _ (Nat.le_refl _)]
          exact this)
      exact ⟨M, m1, fun c hc => by rw [m2 c hc, k2 c hc], m3⟩
theorem cw11 (n : Nat) (hn : n ≤ 8) : ∀ f i (J : HI), i ≤ 2 ^ n → 2 ^ n - i < f → (∀ a, a < i → J 94 a = w0 a ∧ J 95 a = if a = 2 ^ n - 1 then 1 else 0) → ∃ K, L_Model_countWays_11 (nI (2 ^ n - 1)) f (nI i) J = some K ∧ (∀ c, c ≠ 94 → c ≠ 95 → K c = J c) ∧ (∀ a, a < 2 ^ n → K 94 a = w0 a ∧ K 95 a = if a = 2 ^ n - 1 then 1 else 0) := by
  have h256 := lt_p2 n (by omega)
  have hpos := Nat.two_pow_pos n
  intro f
  induction f with
  | zero => intro i J _ h; omega
  | succ f ih =>
    intro i J hi hf hI
    rw [L_Model_countWays_11]
    by_cases h : 2 ^ n ≤ i
    · rw [if_pos (nI_lt (by omega) (by omega))]
      exact ⟨J, rfl, fun _ _ _ => rfl, fun a ha => hI a (by omega)⟩
    · rw [if_neg (nI_nlt (by omega) (by omega)), grd_t (bnd_nI (by omega) (by omega)), grd_t (bnd_nI (by omega) (by omega)), nI_clamp (by omega), nI_1]
      simp only [lt_def]
      have step : ∀ v w : Int32, v = w0 i → w = (if i = 2 ^ n - 1 then 1 else 0) → ∃ K, L_Model_countWays_11 (nI (2 ^ n - 1)) f (nI (i + 1)) (xu (xu J 94 i v) 95 i w) = some K ∧ (∀ c, c ≠ 94 → c ≠ 95 → K c = J c) ∧ (∀ a, a < 2 ^ n → K 94 a = w0 a ∧ K 95 a = if a = 2 ^ n - 1 then 1 else 0) := by
        intro v w hv hw
        obtain ⟨K, k1, k2, k3⟩ := ih (i + 1) (xu (xu J 94 i v) 95 i w) (by omega) (by omega) (fun a ha => by
          by_cases e : a = i
          · subst e
            rw [xu_qn (by decide), xu_rr, xu_rr]
            exact ⟨hv, hw⟩
          · rw [xu_qn (by decide), xu_rn e, xu_rn e, xu_qn (by decide)]
            exact hI a (by omega))
        exact ⟨K, k1, fun c c1 c2 => by rw [k2 c c1 c2, xu_ne c2, xu_ne c1], k3⟩
      by_cases e0 : i = 0
      · rw [if_pos (show nI i = 0 by rw [e0]; rfl)]
        by_cases e1 : i = 2 ^ n - 1
        · rw [if_pos (show nI i = nI (2 ^ n - 1) by rw [← e1])]
          exact step _ _ (by rw [e0]; rfl) (by rw [if_pos e1])
        · rw [if_neg (fun e => e1 ((nI_eq (by omega) (by omega)).mp e))]
          exact step _ _ (by rw [e0]; rfl) (by rw [if_neg e1])
      · rw [if_neg (fun e => e0 ((nI0_iff (by omega)).mp e))]
        by_cases e1 : i = 2 ^ n - 1
        · rw [if_pos (show nI i = nI (2 ^ n - 1) by rw [← e1])]
          exact step _ _ (by unfold w0; rw [if_neg e0]) (by rw [if_pos e1])
        · rw [if_neg (fun e => e1 ((nI_eq (by omega) (by omega)).mp e))]
          exact step _ _ (by unfold w0; rw [if_neg e0]) (by rw [if_neg e1])
theorem all_m (hD : WD D) (h : J 89 = D) : M_Model_allStrokes J = nI (2 ^ nS D - 1) := by
  have n8 := hD.1.2
  unfold M_Model_allStrokes
  rw [h, hD.1.1, mk_all _ (by omega)]
theorem ways_m (hD : WD (J 89)) : ∃ K, M_Model_countWays J = some K ∧ (∀ c, c ≠ 93 → c ≠ 94 → c ≠ 95 → K c = J c) ∧ (∀ a, a < 2 ^ nS (J 89) → K 94 a = out (J 89) (nS (J 89)) (2 ^ nS (J 89)) w0 a) ∧ (∀ a, a < 2 ^ nS (J 89) → onv (J 89) (nS (J 89)) (K 95) a) ∧ (∀ s, s < nS (J 89) → K 93 s = nI (blw (J 89) s)) := by
  have n8 := hD.1.2
  have h256 := lt_p2 (nS (J 89)) (by omega)
  have hpos := Nat.two_pow_pos (nS (J 89))
  obtain ⟨K, k1, k2, k3⟩ := below_m hD
  have k89 := k2 89 (by decide)
  obtain ⟨M, m1, m2, m3⟩ := cw11 (nS (J 89)) n8 1000 0 K (by omega) (by omega) (fun a ha => by omega)
  obtain ⟨P, p1, p2, p3⟩ := cw55 hD 1000 0 M (by omega) (by omega) (by rw [m2 89 (by decide) (by decide)]; exact k89) (fun s hs => by rw [m2 93 (by decide) (by decide)]; exact k3 s hs) (fun a ha => (m3 a ha).1)
  obtain ⟨Q, q1, q2, q3⟩ := cw114 hD 1000 (2 ^ nS (J 89)) P (by omega) (by omega) (by rw [p2 89 (by decide), m2 89 (by decide) (by decide)]; exact k89) (fun s hs => by rw [p2 93 (by decide), m2 93 (by decide) (by decide)]; exact k3 s hs) (fun a ha => by rw [p2 95 (by decide)]; exact (m3 a ha).2) (fun a h1 h2 => by omega)
  refine ⟨Q, ?_, fun c c1 c2 c3 => by rw [q2 c c3, p2 c c2, m2 c c2 c3, k2 c c1], fun a ha => by rw [q2 94 (by decide)]; exact p3 a ha, q3, fun s hs => by rw [q2 93 (by decide), p2 93 (by decide), m2 93 (by decide) (by decide)]; exact k3 s hs⟩
  unfold M_Model_countWays
  rw [k1, Option.bind_some, all_m hD k89, show (0 : Int32) = nI 0 from rfl, m1, Option.bind_some, p1, Option.bind_some, show nI (2 ^ nS (J 89) - 1) = nI (2 ^ nS (J 89)) - 1 by rw [show 2 ^ nS (J 89) = (2 ^ nS (J 89) - 1) + 1 by omega, nI_pred]; rfl, q1, Option.bind_some]
/-! the class -/
theorem co12 (n : Nat) (hn : n ≤ 8) : ∀ f i (J : HI), 1 ≤ i → i ≤ 2 ^ n → 2 ^ n - i < f → (∀ a, 1 ≤ a → a < i → J 69 a = 0) → ∃ K, L_Sets_countOrders_12 (nI (2 ^ n - 1)) f (nI i) J = some K ∧ (∀ c, c ≠ 69 → K c = J c) ∧ (∀ a, 1 ≤ a → a < 2 ^ n → K 69 a = 0) := by
  have h256 := lt_p2 n (by omega)
  have hpos := Nat.two_pow_pos n
  intro f
  induction f with
  | zero => intro i J _ _ h; omega
  | succ f ih =>
    intro i J h1 hi hf hI
    rw [L_Sets_countOrders_12]
    by_cases h : 2 ^ n ≤ i
    · rw [if_pos (nI_lt (by omega) (by omega))]
      exact ⟨J, rfl, fun _ _ => rfl, fun a ha ha2 => hI a ha (by omega)⟩
    · rw [if_neg (nI_nlt (by omega) (by omega)), grd_t (bnd_nI (by omega) (by omega)), nI_clamp (by omega), nI_1]
      obtain ⟨K, k1, k2, k3⟩ := ih (i + 1) (xu J 69 i 0) (by omega) (by omega) (by omega) (fun a ha ha2 => by
        by_cases e : a = i
        · subst e; rw [xu_rr]
        · rw [xu_rn e]; exact hI a ha (by omega))
      exact ⟨K, k1, fun c hc => by rw [k2 c hc, xu_ne hc], k3⟩
theorem rd_has {n k i : Nat} (hn : n ≤ 8) (hi : i < n) : M_Sets_has (nI (rd D k n)) (nI i) = if may D i k = true then 1 else 0 := by
  rw [has_eq (rd_lt n hn) (by omega)]
  by_cases e : may D i k = true
  · rw [if_pos e, if_pos ((rd_t n).mpr ⟨hi, e⟩)]
  · rw [if_neg e, if_neg (fun h => e ((rd_t n).mp h).2)]
theorem co67 {n k : Nat} {x2 : Int32} (hn : n ≤ 8) (hk : k < 2 ^ n) (W : Nat → Int32) : ∀ f i (J : HI), i ≤ n → n - i < f → J 1 1 = nI n → (∀ a, a < 2 ^ n → J 69 a = inn D k i W a) → ∃ K, L_Sets_countOrders_67 x2 (nI k) (nI (rd D k n)) f (nI i) J = some K ∧ (∀ c, c ≠ 69 → K c = J c) ∧ (∀ a, a < 2 ^ n → K 69 a = inn D k n W a) := by
  have h256 := lt_p2 n (by omega)
  intro f
  induction f with
  | zero => intro i J _ h; omega
  | succ f ih =>
    intro i J hi hf h11 hW
    rw [L_Sets_countOrders_67, h11]
    by_cases h : n ≤ i
    · rw [if_pos (nI_le h (by omega))]
      obtain rfl : i = n := by omega
      exact ⟨J, rfl, fun _ _ => rfl, hW⟩
    · rw [if_neg (nI_ge (by omega) (by omega)), rd_has hn (by omega), nI_1]
      have hin := inn_s (D := D) k i W
      by_cases hm : may D i k = true
      · have ho := or_lt hk (show i < n by omega)
        rw [if_pos hm, if_neg one0, mk_set k (by omega) i (by omega), grd_t (bnd_nI (by omega) (by omega)), grd_t (bnd_nI (by omega) (by omega)), nI_clamp (by omega), nI_clamp (by omega)]
        rw [if_pos hm] at hin
        obtain ⟨K, k1, k2, k3⟩ := ih (i + 1) (xu J 69 (k ||| 2 ^ i) (J 69 (k ||| 2 ^ i) + J 69 k)) (by omega) (by omega) (by rw [xu_ne (by decide)]; exact h11) (fun a ha => by
          rw [hin, hW _ ho, hW k hk]
          by_cases e : a = k ||| 2 ^ i
          · subst e; rw [xu_rr, pk_us]
          · rw [xu_rn e, pk_un e]; exact hW a ha)
        exact ⟨K, k1, fun c hc => by rw [k2 c hc, xu_ne hc], k3⟩
      · rw [if_neg hm, if_pos rfl]
        rw [if_neg hm] at hin
        exact ih (i + 1) J (by omega) (by omega) h11 (by rw [hin]; exact hW)
theorem co39 {n : Nat} (hD : WD D) (hn : n ≤ 8) : ∀ f k (J : HI), k ≤ 2 ^ n - 1 → 2 ^ n - k < f → J 1 1 = nI n → (∀ s, s < 8 → J 65 s = nI (blw D s)) → (∀ a, a < 2 ^ n → J 69 a = out D n k w0 a) → ∃ K, L_Sets_countOrders_39 (nI (2 ^ n - 1)) f (nI k) J = some K ∧ (∀ c, c ≠ 69 → K c = J c) ∧ (∀ a, a < 2 ^ n → K 69 a = out D n (2 ^ n - 1) w0 a) := by
  have h256 := lt_p2 n (by omega)
  have hpos := Nat.two_pow_pos n
  intro f
  induction f with
  | zero => intro i J _ h; omega
  | succ f ih =>
    intro k J hi hf h11 h65 hW
    rw [L_Sets_countOrders_39]
    by_cases h : 2 ^ n - 1 ≤ k
    · rw [if_pos (nI_le (by omega) (by omega))]
      obtain rfl : k = 2 ^ n - 1 := by omega
      exact ⟨J, rfl, fun _ _ => rfl, hW⟩
    · rw [if_neg (nI_ge (by omega) (by omega)), grd_t (bnd_nI (by omega) (by omega)), nI_clamp (by omega), nI_1]
      by_cases e0 : J 69 k = 0
      · rw [if_pos e0]
        refine ih (k + 1) J (by omega) (by omega) h11 h65 (fun a ha => ?_)
        rw [out_s, inn_0 k _ (by rw [← hW k (by omega)]; exact e0)]
        exact hW a ha
      · rw [if_neg e0, h11, ready_c hD hn (by omega) h65, Option.bind_some]
        obtain ⟨K, k1, k2, k3⟩ := co67 (D := D) (x2 := nI (2 ^ n - 1)) hn (k := k) (by omega) (out D n k w0) 1000 0 J (by omega) (by omega) h11 hW
        rw [show (0 : Int32) = nI 0 from rfl, k1, Option.bind_some]
        obtain ⟨M, m1, m2, m3⟩ := ih (k + 1) K (by omega) (by omega) (by rw [k2 1 (by decide)]; exact h11) (fun s hs => by rw [k2 65 (by decide)]; exact h65 s hs) k3
        exact ⟨M, m1, fun c hc => by rw [m2 c hc, k2 c hc], m3⟩
theorem all_c {n : Nat} (hn : n ≤ 8) (h : J 1 1 = nI n) : M_Sets_allOf J = nI (2 ^ n - 1) := by
  unfold M_Sets_allOf
  rw [h, mk_all _ (by omega)]
theorem orders_c (h : Rel B L xs C I) : ∃ K, M_Sets_countOrders I = some (out (I 89) (nS (I 89)) (2 ^ nS (I 89)) w0 (2 ^ nS (I 89) - 1), K) ∧ fr [65, 69] I K := by
  have n8 := h.n8
  have h256 := lt_p2 (nS (I 89)) (by omega)
  have hpos := Nat.two_pow_pos (nS (I 89))
  obtain ⟨K, k1, k2, k3⟩ := below_c h (J := I) (fun _ _ => rfl)
  have k11 : K 1 1 = nI (nS (I 89)) := by rw [k2 1 (by decide)]; exact st_nI h
  obtain ⟨M, m1, m2, m3⟩ := co12 (nS (I 89)) n8 1000 1 K (by omega) (by omega) (by omega) (fun a h1 h2 => by omega)
  obtain ⟨P, p1, p2, p3⟩ := co39 (D := I 89) h.2.1 n8 1000 0 (xu M 69 0 1) (by omega) (by omega) (by rw [xu_ne (by decide), m2 1 (by decide)]; exact k11) (fun s hs => by rw [xu_ne (by decide), m2 65 (by decide)]; exact k3 s hs) (fun a ha => by
    show _ = w0 a
    unfold w0
    by_cases e : a = 0
    · subst e; rw [xu_rr, if_pos rfl]
    · rw [xu_rn e, if_neg e]; exact m3 a (by omega) ha)
  refine ⟨P, ?_, fun c hc => ?_⟩
  · unfold M_Sets_countOrders
    simp only [lt_def]
    rw [k1, Option.bind_some, all_c n8 k11, show (1 : Int32) = nI 1 from rfl, m1, Option.bind_some, show (0 : Int32) = nI 0 from rfl]
    rw [show L_Sets_countOrders_39 (nI (2 ^ nS (I 89) - 1)) 1000 (nI 0) (xu M 69 0 (nI 1)) = some P from p1, Option.bind_some, grd_t (bnd_nI (by omega) (by omega)), nI_clamp (by omega), p3 _ (by omega)]
    have e : out (I 89) (nS (I 89)) (2 ^ nS (I 89)) w0 = out (I 89) (nS (I 89)) (2 ^ nS (I 89) - 1) w0 := by
      rw [show out (I 89) (nS (I 89)) (2 ^ nS (I 89)) w0 = out (I 89) (nS (I 89)) (2 ^ nS (I 89) - 1 + 1) w0 by rw [Nat.sub_add_cancel hpos], out_s, inn_all _ _ _ (Nat.le_refl _)]
    rw [e]
  · have h1 : c ≠ 65 := fun e => hc (by simp [e])
    have h2 : c ≠ 69 := fun e => hc (by simp [e])
    rw [p2 c h2, xu_ne h2, m2 c h2, k2 c h1]
theorem ok_orders (h : Rel B L xs C I) : OK1 B L xs C (M_H_orders I) (fun J => M_Model_orders J) := by
  have n8 := h.n8
  have h256 := lt_p2 (nS (I 89)) (by omega)
  have hpos := Nat.two_pow_pos (nS (I 89))
  obtain ⟨J, j1, j2⟩ := orders_c h
  have h89 : J 89 = I 89 := j2 89 (by decide)
  obtain ⟨K, k1, k2, k3, k4, k5⟩ := ways_m (J := J) (by rw [h89]; exact h.2.1)
  rw [h89] at k3
  refine ok_val h (v := out (I 89) (nS (I 89)) (2 ^ nS (I 89)) w0 (2 ^ nS (I 89) - 1)) (J := J) (K := K) (W := [65, 69]) (W' := [93, 94, 95]) ?_ j2 (by decide) (by decide) ?_ (fun c hc => k2 c (fun e => hc (by simp [e])) (fun e => hc (by simp [e])) (fun e => hc (by simp [e]))) (by decide) (by rw [k2 88 (by decide) (by decide) (by decide)]) (by rw [k2 88 (by decide) (by decide) (by decide)])
  · unfold M_H_orders
    rw [j1]; rfl
  · show M_Model_orders J = _
    unfold M_Model_orders
    rw [k1, Option.bind_some, all_m h.2.1 (show K 89 = I 89 by rw [k2 89 (by decide) (by decide) (by decide)]; exact h89), grd_t (bnd_nI (by omega) (by omega)), nI_clamp (by omega), k3 _ (by omega)]
end RQ
