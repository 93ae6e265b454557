/-! what is sure: class and reference -/
section SQ
variable {B L : Nat} {xs : Nat → Int32} {C : HC} {I J K : HI} {D W V P c : Nat → Int32} {n : Nat}
theorem sg_upd {g h : Nat → Int32} {b : Nat} {e : Int32} (hb : h b = g b + e) (ho : ∀ q, q ≠ b → h q = g q) : ∀ N, sg h N = sg g N + (if b < N then e else 0) := by
  intro N
  induction N with
  | zero => rw [if_neg (by omega)]; exact (Int32.add_zero _).symm
  | succ N ih =>
    rw [sg_s, sg_s, ih]
    by_cases e1 : b = N
    · subst e1
      rw [if_neg (Nat.lt_irrefl _), if_pos (Nat.lt_succ_self _), hb, Int32.add_zero, Int32.add_assoc]
    · rw [ho N (fun e' => e1 e'.symm)]
      by_cases c1 : b < N
      · rw [if_pos c1, if_pos (by omega), Int32.add_assoc, Int32.add_comm e, ← Int32.add_assoc]
      · rw [if_neg c1, if_neg (by omega), Int32.add_zero, Int32.add_zero]
theorem inn_sum {k : Nat} {p : Nat → Int32} (hk : k < 2 ^ n) (hp : ∀ b, k < b → p b = P b) : ∀ i, i ≤ n → sg (fun S => inn D k i W S * p S) (2 ^ n) = sg (fun S => W S * p S) (2 ^ n) + W k * osm D k P i := by
  intro i
  induction i with
  | zero => intro _; exact ((congrArg (fun z => sg (fun S => W S * p S) (2 ^ n) + z) Int32.mul_zero).trans (Int32.add_zero _)).symm
  | succ i ih =>
    intro hi
    have ihi := ih (by omega)
    by_cases hm : may D i k = true
    · have hb := or_lt hk (show i < n by omega)
      have hgt := or_gt (may_b hm)
      rw [sg_upd (g := fun S => inn D k i W S * p S) (h := fun S => inn D k (i + 1) W S * p S) (b := k ||| 2 ^ i) (e := W k * P (k ||| 2 ^ i)) ?_ ?_ (2 ^ n), ihi, if_pos hb, osm_s, if_pos hm, Int32.mul_add, Int32.add_assoc]
      · show inn D k (i + 1) W (k ||| 2 ^ i) * p (k ||| 2 ^ i) = inn D k i W (k ||| 2 ^ i) * p (k ||| 2 ^ i) + W k * P (k ||| 2 ^ i)
        rw [inn_s, if_pos hm, pk_us, Int32.add_mul, inn_k, hp _ hgt]
      · intro q hq
        show inn D k (i + 1) W q * p q = inn D k i W q * p q
        rw [inn_s, if_pos hm, pk_un hq]
    · rw [osm_s, if_neg hm, ← ihi]
      apply sg_c
      intro q _
      show inn D k (i + 1) W q * p q = inn D k i W q * p q
      rw [inn_s, if_neg hm]
theorem out_pot (hP : ∀ S, S < 2 ^ n → P S = c S + osm D S P n) : ∀ k, k ≤ 2 ^ n → sg (fun S => out D n k W S * (if S < k then c S else P S)) (2 ^ n) = sg (fun S => W S * P S) (2 ^ n) := by
  intro k
  induction k with
  | zero =>
    intro _
    apply sg_c
    intro q _
    show out D n 0 W q * (if q < 0 then c q else P q) = W q * P q
    rw [if_neg (Nat.not_lt_zero _)]
    rfl
  | succ k ih =>
    intro hk
    have h1 := inn_sum (D := D) (W := out D n k W) (P := P) (p := fun S => if S < k + 1 then c S else P S) (n := n) (k := k) (by omega) (fun b hb => if_neg (by omega)) n (Nat.le_refl _)
    have h2 := sg_upd (g := fun S => out D n k W S * (if S < k + 1 then c S else P S)) (h := fun S => out D n k W S * (if S < k then c S else P S)) (b := k) (e := out D n k W k * osm D k P n) (by
      show out D n k W k * (if k < k then c k else P k) = out D n k W k * (if k < k + 1 then c k else P k) + _
      rw [if_neg (Nat.lt_irrefl _), if_pos (Nat.lt_succ_self _), ← Int32.mul_add, ← hP k (by omega)]) (fun q hq => by
      show out D n k W q * (if q < k then c q else P q) = out D n k W q * (if q < k + 1 then c q else P q)
      by_cases c1 : q < k
      · rw [if_pos c1, if_pos (by omega)]
      · rw [if_neg c1, if_neg (by omega)]) (2 ^ n)
    rw [if_pos (by omega)] at h2
    show sg (fun S => inn D k n (out D n k W) S * (if S < k + 1 then c S else P S)) (2 ^ n) = _
    rw [h1, ← h2, ih (by omega)]
theorem w0_sum : ∀ k, sg (fun S => w0 S * P S) (k + 1) = P 0 := by
  intro k
  induction k with
  | zero =>
    show 0 + w0 0 * P 0 = P 0
    rw [Int32.zero_add, show w0 0 = 1 from rfl, Int32.one_mul]
  | succ k ih =>
    rw [sg_s, ih]
    show P 0 + w0 (k + 1) * P (k + 1) = P 0
    rw [show w0 (k + 1) = 0 from rfl, Int32.zero_mul, Int32.add_zero]
theorem pot (hP : ∀ S, S < 2 ^ n → P S = c S + osm D S P n) : sg (fun S => out D n (2 ^ n) w0 S * c S) (2 ^ n) = P 0 := by
  have h := out_pot (W := w0) hP (2 ^ n) (Nat.le_refl _)
  have hpos := Nat.two_pow_pos n
  rw [show sg (fun S => w0 S * P S) (2 ^ n) = P 0 by
    obtain ⟨k, hk⟩ : ∃ k, 2 ^ n = k + 1 := ⟨2 ^ n - 1, by omega⟩
    rw [hk]; exact w0_sum k] at h
  rw [← h]
  apply sg_c
  intro q hq
  show out D n (2 ^ n) w0 q * c q = out D n (2 ^ n) w0 q * (if q < 2 ^ n then c q else P q)
  rw [if_pos hq]
theorem osm_nI {a : Nat} {f : Nat → Nat} : ∀ k, (∀ i, i < k → may D i a = true → V (a ||| 2 ^ i) = nI (f (a ||| 2 ^ i))) → osm D a V k = nI (snm D a f k) := by
  intro k
  induction k with
  | zero => intro _; rfl
  | succ k ih =>
    intro h
    rw [osm_s, snm_s, ih (fun i hi => h i (by omega))]
    by_cases hm : may D k a = true
    · rw [if_pos hm, if_pos hm, h k (by omega) hm, nI_add]
    · rw [if_neg hm, if_neg hm]
theorem on_nv (hn : n ≤ 8) (hV : ∀ a, a < 2 ^ n → onv D n V a) : ∀ d a, 2 ^ n - a ≤ d → a < 2 ^ n → V a = nI (nv D n a) := by
  intro d
  induction d with
  | zero => intro a h1 h2; omega
  | succ d ih =>
    intro a h1 h2
    rw [hV a h2, nv_rec hn h2, ← nI_add, osm_nI (f := nv D n) n (fun i hi hm => ?_)]
    · by_cases e : a = 2 ^ n - 1
      · rw [if_pos e, if_pos e]; rfl
      · rw [if_neg e, if_neg e]; rfl
    · have := or_gt (may_b hm)
      exact ih _ (by omega) (or_lt h2 hi)
theorem all_nv (hn : n ≤ 8) (hV : ∀ a, a < 2 ^ n → onv D n V a) : out D n (2 ^ n) w0 (2 ^ n - 1) = nI (nv D n 0) := by
  have hpos := Nat.two_pow_pos n
  have h := pot (D := D) (n := n) (P := V) (c := fun S => if S = 2 ^ n - 1 then 1 else 0) hV
  rw [on_nv hn hV _ 0 (Nat.le_refl _) hpos] at h
  rw [← h]
  have e : sg (fun S => out D n (2 ^ n) w0 S * (if S = 2 ^ n - 1 then 1 else 0)) (2 ^ n - 1 + 1) = out D n (2 ^ n) w0 (2 ^ n - 1) := by
    rw [sg_s, sg_0 (2 ^ n - 1) (fun q hq => ?_), Int32.zero_add]
    · show out D n (2 ^ n) w0 (2 ^ n - 1) * (if 2 ^ n - 1 = 2 ^ n - 1 then 1 else 0) = _
      rw [if_pos rfl, Int32.mul_one]
    · show out D n (2 ^ n) w0 q * (if q = 2 ^ n - 1 then 1 else 0) = 0
      rw [if_neg (by omega), Int32.mul_zero]
  rw [show 2 ^ n - 1 + 1 = 2 ^ n by omega] at e
  exact e.symm
/-- what the reference adds at S -/
def gA (D : Nat → Int32) (n x y S : Nat) : Int32 := out D n (2 ^ n) w0 S * nI (if S.testBit y = true ∧ may D x S = true then nv D n (S ||| 2 ^ x) else 0)
theorem ahead_nq (hn : n ≤ 8) (x y : Nat) : sg (gA D n x y) (2 ^ n) = nI (nq D n x y 0) := by
  refine pot (D := D) (n := n) (P := fun S => nI (nq D n x y S)) (c := fun S => nI (if S.testBit y = true ∧ may D x S = true then nv D n (S ||| 2 ^ x) else 0)) (fun S hS => ?_)
  show nI (nq D n x y S) = nI (if S.testBit y = true ∧ may D x S = true then nv D n (S ||| 2 ^ x) else 0) + osm D S (fun S => nI (nq D n x y S)) n
  rw [nq_rec hn hS, ← nI_add, osm_nI (f := nq D n x y) n (fun i hi hm => rfl)]
theorem blw_p2 (hD : WD D) (s : Nat) : blw D s < 2 ^ nS D := by
  have key : ∀ k, k ≤ nL D → bl D s k < 2 ^ nS D := by
    intro k
    induction k with
    | zero => intro _; exact Nat.two_pow_pos _
    | succ k ih =>
      intro hk
      obtain ⟨g1, g2, g3, g4, g5⟩ := uL_eq hD (l := k) (by omega)
      rw [bl_s]
      split
      · exact or_lt (ih (by omega)) g4
      · exact ih (by omega)
  exact key _ (Nat.le_refl _)
theorem su47 (hD : WD D) {x y : Nat} {x3 : Int32} (hx : x < nS D) (hy : y < nS D) (h89 : K 89 = D) (h93 : ∀ s, s < nS D → K 93 s = nI (blw D s)) (h94 : ∀ a, a < 2 ^ nS D → K 94 a = out D (nS D) (2 ^ nS D) w0 a) (h95 : ∀ a, a < 2 ^ nS D → K 95 a = nI (nv D (nS D) a)) : ∀ f S v, S ≤ 2 ^ nS D → 2 ^ nS D - S < f → v = sg (gA D (nS D) x y) S → L_Model_sure_47 (nI x) (nI y) x3 K f v (nI S) = some (sg (gA D (nS D) x y) (2 ^ nS D)) := by
  have n8 := hD.1.2
  have h256 := lt_p2 (nS D) (by omega)
  have hpos := Nat.two_pow_pos (nS D)
  intro f
  induction f with
  | zero => intro S v _ h; omega
  | succ f ih =>
    intro S v hS hf hv
    rw [L_Model_sure_47, all_m hD h89]
    by_cases h : 2 ^ nS D ≤ S
    · rw [if_pos (nI_lt (by omega) (by omega)), hv, show S = 2 ^ nS D by omega]
    · have hz : ¬ (S.testBit y = true ∧ may D x S = true) → v + 0 = sg (gA D (nS D) x y) (S + 1) := fun hno => by
        rw [sg_s, ← hv]
        unfold gA
        rw [if_neg hno, show nI 0 = (0 : Int32) from rfl, Int32.mul_zero]
      rw [if_neg (nI_nlt (by omega) (by omega)), mk_bit S (by omega) y (by omega), nI_1]
      by_cases cy : S.testBit y = true
      · rw [if_pos cy, if_pos rfl, may_m hD hx (by omega) (h93 x hx), Option.bind_some]
        by_cases hm : may D x S = true
        · have ho := or_lt (show S < 2 ^ nS D by omega) hx
          rw [if_pos hm, if_neg one0, mk_set S (by omega) x (by omega), grd_t (bnd_nI (by omega) (by omega)), grd_t (bnd_nI (by omega) (by omega)), nI_clamp (by omega), nI_clamp (by omega), h94 S (by omega), h95 _ ho]
          simp only [lt_def]
          refine ih (S + 1) _ (by omega) (by omega) ?_
          rw [sg_s, ← hv]
          unfold gA
          rw [if_pos ⟨cy, hm⟩]
        · rw [if_neg hm, if_pos rfl]
          exact ih (S + 1) _ (by omega) (by omega) (hz (fun e => hm e.2))
      · rw [if_neg cy, if_neg (show ¬ (0 : Int32) = 1 by decide)]
        exact ih (S + 1) _ (by omega) (by omega) (hz (fun e => cy e.1))
/-! the class -/
theorem wr_mm (m : Nat) : wr D (m + 1) m = wr D m m := by
  rw [wr_s]
  split
  · exact Nat.or_self _
  · rfl
theorem su24 (hn : n ≤ 8) (hb : ∀ v, blw D v < 2 ^ n) {m : Nat} {x2 x3 : Int32} (hm : m < n) : ∀ f v (J : HI), v ≤ n → n - v < f → (∀ u, u < n → J 65 u = nI (if u < v then wr D (m + 1) u else wr D m u)) → ∃ K, L_Sets_surely_24 x2 x3 (nI n) (nI m) f (nI v) J = some K ∧ (∀ c, c ≠ 65 → K c = J c) ∧ (∀ u, u < n → K 65 u = nI (wr D (m + 1) u)) := by
  have h256 := lt_p2 n (by omega)
  intro f
  induction f with
  | zero => intro v J _ h; omega
  | succ f ih =>
    intro v J hv hf h65
    rw [L_Sets_surely_24]
    by_cases h : n ≤ v
    · rw [if_pos (nI_le h (by omega))]
      exact ⟨J, rfl, fun _ _ => rfl, fun u hu => by rw [h65 u hu, if_pos (by omega)]⟩
    · have hw := wr_lt (D := D) hb m v
      have e65 := h65 v (by omega)
      rw [if_neg (Nat.lt_irrefl _)] at e65
      have em : J 65 m = nI (wr D m m) := by
        rw [h65 m hm]
        by_cases c1 : m < v
        · rw [if_pos c1, wr_mm]
        · rw [if_neg c1]
      rw [if_neg (nI_ge (by omega) (by omega)), grd_t (bnd_nI (by omega) (by omega)), nI_clamp (show v < 2 ^ 31 by omega), e65, has_eq (by omega) (by omega), nI_1]
      have hs := wr_s (D := D) m v
      by_cases c1 : (wr D m v).testBit m = true
      · rw [if_pos c1] at hs
        rw [if_pos c1, if_neg one0, grd_t (bnd_nI (by omega) (by omega)), nI_clamp (show m < 2 ^ 31 by omega), em, nx_or]
        obtain ⟨K, k1, k2, k3⟩ := ih (v + 1) (xu J 65 v (nI (wr D m v ||| wr D m m))) (by omega) (by omega) (fun u hu => by
          by_cases e : u = v
          · subst e; rw [xu_rr, if_pos (by omega), hs]
          · rw [xu_rn e, h65 u hu]
            by_cases c2 : u < v
            · rw [if_pos c2, if_pos (by omega)]
            · rw [if_neg c2, if_neg (by omega)])
        exact ⟨K, k1, fun c hc => by rw [k2 c hc, xu_ne hc], k3⟩
      · rw [if_neg c1] at hs
        rw [if_neg c1, if_pos rfl]
        exact ih (v + 1) J (by omega) (by omega) (fun u hu => by
          rw [h65 u hu]
          by_cases c2 : u < v
          · rw [if_pos c2, if_pos (by omega)]
          · by_cases e : u = v
            · subst e; rw [if_neg c2, if_pos (by omega), hs]
            · rw [if_neg c2, if_neg (by omega)])
theorem su14 (hn : n ≤ 8) (hb : ∀ v, blw D v < 2 ^ n) {x2 x3 : Int32} : ∀ f m (J : HI), m ≤ n → n - m < f → (∀ u, u < n → J 65 u = nI (wr D m u)) → ∃ K, L_Sets_surely_14 x2 x3 (nI n) f (nI m) J = some K ∧ (∀ c, c ≠ 65 → K c = J c) ∧ (∀ u, u < n → K 65 u = nI (wr D n u)) := by
  intro f
  induction f with
  | zero => intro m J _ h; omega
  | succ f ih =>
    intro m J hm hf h65
    rw [L_Sets_surely_14]
    by_cases h : n ≤ m
    · rw [if_pos (nI_le h (by omega))]
      exact ⟨J, rfl, fun _ _ => rfl, fun u hu => by rw [h65 u hu, show m = n by omega]⟩
    · rw [if_neg (nI_ge (by omega) (by omega)), nI_1]
      obtain ⟨K, k1, k2, k3⟩ := su24 (D := D) (x2 := x2) (x3 := x3) hn hb (show m < n by omega) 1000 0 J (by omega) (by omega) (fun u hu => by rw [if_neg (Nat.not_lt_zero _)]; exact h65 u hu)
      rw [show L_Sets_surely_24 x2 x3 (nI n) (nI m) 1000 0 J = some K from k1, Option.bind_some]
      obtain ⟨M, m1, m2, m3⟩ := ih (m + 1) K (by omega) (by omega) k3
      exact ⟨M, m1, fun c hc => by rw [m2 c hc, k2 c hc], m3⟩
theorem su78 (hn : n ≤ 8) (hb : ∀ v, blw D v < 2 ^ n) {x2 x3 : Int32} (h65 : ∀ u, u < n → J 65 u = nI (wr D n u)) : (¬ acy D n ∧ L_Sets_surely_78 x2 x3 (nI n) J 1000 0 = some 0) ∨ (acy D n ∧ L_Sets_surely_78 x2 x3 (nI n) J 1000 0 = some 1) := by
  have h256 := lt_p2 n (by omega)
  have key := srch (fun f i => L_Sets_surely_78 x2 x3 (nI n) J f (nI i)) n (fun v => (wr D n v).testBit v = true) (fun _ => 0) 1 ?_ ?_ ?_ 1000 0 (by omega) (by omega)
  · rcases key with ⟨j, j1, j2, j3, j4, j5⟩ | ⟨j1, j2⟩
    · exact Or.inl ⟨fun ha => (by rw [ha j j2] at j3; cases j3), j5⟩
    · exact Or.inr ⟨fun v hv => tb_nt (j1 v (by omega) hv), j2⟩
  · intro f i hi hp
    have hw := wr_lt (D := D) hb n i
    show L_Sets_surely_78 x2 x3 (nI n) J (f + 1) (nI i) = L_Sets_surely_78 x2 x3 (nI n) J f (nI (i + 1))
    rw [L_Sets_surely_78, if_neg (nI_ge hi (by omega)), grd_t (bnd_nI (by omega) (by omega)), nI_clamp (by omega), h65 i hi, has_eq (by omega) (by omega), if_neg hp, if_pos rfl, nI_1]
  · intro f i hi hp
    have hw := wr_lt (D := D) hb n i
    show L_Sets_surely_78 x2 x3 (nI n) J (f + 1) (nI i) = some 0
    rw [L_Sets_surely_78, if_neg (nI_ge hi (by omega)), grd_t (bnd_nI (by omega) (by omega)), nI_clamp (by omega), h65 i hi, has_eq (by omega) (by omega), if_pos hp, if_neg one0]
  · intro f
    show L_Sets_surely_78 x2 x3 (nI n) J (f + 1) (nI n) = some 1
    rw [L_Sets_surely_78, if_pos (nI_le (Nat.le_refl _) (by omega))]
/-- the answer -/
noncomputable def ans (D : Nat → Int32) (n x y : Nat) : Int32 := @ite Int32 (acy D n) (Classical.propDecidable _) (if (wr D n x).testBit y = true then 1 else if (wr D n y).testBit x = true then -1 else 0) 0
theorem surely_c (h : Rel B L xs C I) {x y : Nat} (hx : x < nS (I 89)) (hy : y < nS (I 89)) : ∃ K, M_Sets_surely I (nI x) (nI y) = some (ans (I 89) (nS (I 89)) x y, K) ∧ fr [65] I K := by
  have n8 := h.n8
  have h256 := lt_p2 (nS (I 89)) (by omega)
  have hb := blw_p2 h.2.1
  obtain ⟨K, k1, k2, k3⟩ := below_c (J := I) h (fun _ _ => rfl)
  have k11 : K 1 1 = nI (nS (I 89)) := by rw [k2 1 (by decide)]; exact st_nI h
  obtain ⟨M, m1, m2, m3⟩ := su14 (D := I 89) (n := nS (I 89)) (x2 := nI x) (x3 := nI y) n8 hb 1000 0 K (by omega) (by omega) (fun u hu => k3 u (by omega))
  have wx := wr_lt (D := I 89) hb (nS (I 89)) x
  have wy := wr_lt (D := I 89) hb (nS (I 89)) y
  refine ⟨M, ?_, fun c hc => by rw [m2 c (fun e => hc (by simp [e])), k2 c (fun e => hc (by simp [e]))]⟩
  unfold M_Sets_surely ans
  rw [k1, Option.bind_some, k11, show L_Sets_surely_14 (nI x) (nI y) (nI (nS (I 89))) 1000 0 K = some M from m1, Option.bind_some]
  rcases su78 (J := M) (x2 := nI x) (x3 := nI y) n8 hb m3 with ⟨g1, g2⟩ | ⟨g1, g2⟩
  · rw [g2, Option.bind_some, if_pos rfl, if_neg g1]
  · rw [g2, Option.bind_some, if_neg (by decide), if_pos g1, grd_t (bnd_nI (by omega) (by omega)), nI_clamp (show x < 2 ^ 31 by omega), nI_clamp (show y < 2 ^ 31 by omega), m3 x hx, m3 y hy, has_eq (by omega) (by omega), has_eq (by omega) (by omega)]
    by_cases c1 : (wr (I 89) (nS (I 89)) x).testBit y = true
    · rw [if_pos c1, if_pos c1, if_neg one0]
    · rw [if_neg c1, if_neg c1, if_pos rfl, grd_t (bnd_nI (by omega) (by omega))]
      by_cases c2 : (wr (I 89) (nS (I 89)) y).testBit x = true
      · rw [if_pos c2, if_pos c2, if_neg one0]
      · rw [if_neg c2, if_neg c2, if_pos rfl]
/-- the reference's numbers say the same -/
theorem ans_m (hn : n ≤ 8) (hb : ∀ v, blw D v < 2 ^ n) {x y : Nat} (hx : x < n) (hy : y < n) (hxy : x ≠ y) : (if nI (nv D n 0) = 0 then (0 : Int32) else if nI (nq D n x y 0) = nI (nv D n 0) then 1 else if nI (nq D n x y 0) = 0 then -1 else 0) = ans D n x y := by
  have hpos := Nat.two_pow_pos n
  have d0 : dc D 0 := fun s hs => by rw [Nat.zero_testBit] at hs; cases hs
  have l1 := nv_lt (D := D) hn 0
  have hs := nq_sum (D := D) hn hx hy hxy _ 0 (Nat.le_refl _) hpos
  rw [if_neg (fun e => by have := e.1; rw [Nat.zero_testBit] at this; cases this)] at hs
  unfold ans
  by_cases ha : acy D n
  · have p1 := acy_nv hn hb ha _ 0 (Nat.le_refl _) hpos d0
    rw [if_pos ha, if_neg (fun e => by have := (nI0_iff (by omega)).mp e; omega)]
    by_cases c1 : (wr D n x).testBit y = true
    · have z := nq_0 hn hb c1 _ 0 (Nat.le_refl _) hpos d0
      rw [if_pos c1, if_pos (by rw [show nq D n x y 0 = nv D n 0 by omega])]
    · have z := nq_pos hn hb ha hy hx (fun e => hxy e.symm) (tb_nt c1) _ 0 (Nat.le_refl _) hpos d0 (Nat.zero_testBit _)
      rw [if_neg c1, if_neg (fun e => by have := (nI_eq (by omega) (by omega)).mp e; omega)]
      by_cases c2 : (wr D n y).testBit x = true
      · have z2 := nq_0 hn hb c2 _ 0 (Nat.le_refl _) hpos d0
        rw [if_pos c2, if_pos (by rw [z2]; rfl)]
      · have z2 := nq_pos hn hb ha hx hy hxy (tb_nt c2) _ 0 (Nat.le_refl _) hpos d0 (Nat.zero_testBit _)
        rw [if_neg c2, if_neg (fun e => by have := (nI0_iff (by omega)).mp e; omega)]
  · have z : nv D n 0 = 0 := Classical.byContradiction fun h0 => ha (fun v hv => nv_acy hn hb _ 0 (Nat.le_refl _) hpos d0 (Nat.pos_of_ne_zero h0) v hv (Nat.zero_testBit _))
    rw [if_neg ha, z, if_pos (show nI 0 = (0 : Int32) from rfl)]
theorem ok_sure (h : Rel B L xs C I) (x y : Int32) : OK1 B L xs C (M_H_sure I x y) (fun J => M_Model_sure J x y) := by
  have n8 := h.n8
  have h256 := lt_p2 (nS (I 89)) (by omega)
  have hpos := Nat.two_pow_pos (nS (I 89))
  have hb := blw_p2 h.2.1
  unfold M_H_sure M_Model_sure
  simp only [bsome]
  rcases two_case h x y with ⟨s, t, hs, ht, hne, rfl, rfl, c1, c2⟩ | ⟨c1, c2⟩
  · obtain ⟨J, j1, j2⟩ := surely_c h hs ht
    have j89 : J 89 = I 89 := j2 89 (by decide)
    obtain ⟨d1, d2, d3⟩ := c2 J j89
    obtain ⟨K, k1, k2, k3, k4, k5⟩ := ways_m (J := J) (by rw [j89]; exact h.2.1)
    rw [j89] at k3 k4 k5
    have k89 : K 89 = I 89 := by rw [k2 89 (by decide) (by decide) (by decide)]; exact j89
    have kall := all_nv n8 k4
    have hw := su47 (K := K) (D := I 89) (x3 := nI (nv (I 89) (nS (I 89)) 0)) h.2.1 hs ht k89 k5 k3 (fun a ha => on_nv n8 k4 _ a (Nat.le_refl _) ha) 1000 0 0 (by omega) (by omega) rfl
    rw [ahead_nq n8] at hw
    refine ok_val h (v := ans (I 89) (nS (I 89)) s t) (J := J) (K := K) (W := [65]) (W' := [93, 94, 95]) ?_ j2 (by decide) (by decide) ?_ (fun c hc => k2 c (fun e => hc (by simp [e])) (fun e => hc (by simp [e])) (fun e => hc (by simp [e]))) (by decide) (by rw [k2 88 (by decide) (by decide) (by decide)]) (by rw [k2 88 (by decide) (by decide) (by decide)])
    · rw [c1, if_neg one0, j1]
    · show (if M_Model_isStroke J (nI s) = 0 then _ else _) = _
      rw [d1, if_neg one0, d2, if_neg one0, if_neg d3, k1, Option.bind_some, all_m h.2.1 k89, grd_t (bnd_nI (by omega) (by omega)), nI_clamp (by omega), k3 _ (by omega), kall, show L_Model_sure_47 (nI s) (nI t) (nI (nv (I 89) (nS (I 89)) 0)) K 1000 0 0 = _ from hw, Option.bind_some, ← ans_m n8 hb hs ht hne]
      by_cases e1 : nI (nv (I 89) (nS (I 89)) 0) = 0
      · rw [if_pos e1, if_pos e1]
      · rw [if_neg e1, if_neg e1]
        by_cases e2 : nI (nq (I 89) (nS (I 89)) s t 0) = nI (nv (I 89) (nS (I 89)) 0)
        · rw [if_pos e2, if_pos e2]
        · rw [if_neg e2, if_neg e2]
          by_cases e3 : nI (nq (I 89) (nS (I 89)) s t 0) = 0
          · rw [if_pos e3, if_pos e3]
          · rw [if_neg e3, if_neg e3]
  · rw [c1, if_pos rfl]
    exact err_ok0 1 (by decide) (by decide) h rfl (two_err (c2 _ e89))
end SQ
