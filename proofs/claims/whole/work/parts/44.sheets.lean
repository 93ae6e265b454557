section RS
variable {B L : Nat} {xs : Nat → Int32} {C : HC} {I J K : HI} {D : Nat → Int32}
def shc : List Nat := [80, 81, 82, 83, 84, 85, 103, 104, 105]
/-- only the sheets change -/
theorem Rel.upH (h : Rel B L xs C I) (ec : ∀ c, c ∉ shc → c ∉ SCR → K c = I c) (h88 : K 88 = I 88) (hZ : SH K) : Rel B L xs C K := by
  obtain ⟨r1, r2, r3, r4, r5, r6, r7, r8, r9, r10⟩ := h
  have hst : ∀ q, gS C q = true → K q = I q := fun q hq => ec q (fun hm => by
    have : ∀ c, c ∈ shc → c < 107 ∧ ¬ (xtab c).1 < 7 := by decide
    exact st_ne hq (this _ hm).1 (this _ hm).2 rfl) (st_scr hq)
  have e89 := ec 89 (by decide) (by decide)
  have e90 := ec 90 (by decide) (by decide)
  refine ⟨r1, by rw [e89]; exact r2, ?_, by rw [ec 0 (by decide) (by decide), h88]; exact r4, fun hne => ?_, fun k hk => by rw [ec 87 (by decide) (by decide), ec 91 (by decide) (by decide)]; exact r6 k hk, ?_, hZ, ?_, by rw [ec 1000000 (by decide) (by decide)]; exact r10⟩
  · rw [e89]
    exact r3.fr (fun c hm => by
      have : ∀ c, c ∈ wcs 1 → c ∉ shc ∧ c ∉ SCR := by decide
      exact ec c (this c hm).1 (this c hm).2) (fun s hs => hst _ (r1.2.2.1 s (by have := r2.1.2; omega)).1)
  · obtain ⟨g1, g2⟩ := r5 (by rw [← h88]; exact hne)
    rw [e90]
    exact ⟨g1, g2.fr (fun c hm => by
      have : ∀ c, c ∈ wcs 32 → c ∉ shc ∧ c ∉ SCR := by decide
      exact ec c (this c hm).1 (this c hm).2) (fun s hs => hst _ (r1.2.2.1 s (by have := g1.1.2; omega)).2)⟩
  · obtain ⟨t, t1, t2, t3, t4⟩ := r7
    exact ⟨t, t1, by rw [ec 86 (by decide) (by decide)]; exact t2, by rw [h88]; exact t3, fun j hj => by rw [ec 86 (by decide) (by decide), ec 102 (by decide) (by decide)]; exact t4 j hj⟩
  · unfold MP
    rw [ec 1000001 (by decide) (by decide)]
    exact r9
theorem sht_n {x : Int32} (h : ¬ (0 ≤ x.toInt ∧ x.toInt < 4)) : M_H_isSheet x = 0 ∧ M_Model_isSheet x = 0 := by
  unfold M_H_isSheet M_Model_isSheet
  rw [within_eq, in_nat x (a := 0) (b := 3) (by decide) (by decide)]
  have a : (3 : Int32).toInt = 3 := rfl
  exact ⟨if_neg (by omega), if_neg (by omega)⟩
theorem sht_y {s : Nat} (h : s < 4) : M_H_isSheet (nI s) = 1 ∧ M_Model_isSheet (nI s) = 1 := by
  unfold M_H_isSheet M_Model_isSheet
  rw [within_eq, in_nat (nI s) (a := 0) (b := 3) (by decide) (by decide), nI_toInt (by omega)]
  have a : (3 : Int32).toInt = 3 := rfl
  exact ⟨if_pos (by omega), if_pos (by omega)⟩
/-- a sheet emptied -/
theorem wipe_c (s : Nat) (hs : s < 4) : ∀ f i (I : HI), i ≤ 40 → 40 - i < f → ∃ J, L_H_sheet_75 (nI s) f (nI i) I = some J ∧ (∀ c, c ≠ 80 + s → J c = I c) ∧ (∀ j, j < i → J (80 + s) j = I (80 + s) j) ∧ (∀ j, i ≤ j → j < 40 → J (80 + s) j = 0) := by
  intro f
  induction f with
  | zero => intro i I _ h; omega
  | succ f ih =>
    intro i I hi hf
    unfold L_H_sheet_75
    by_cases h : 40 ≤ i
    · rw [if_pos (c_le 40 40 h (by omega))]
      exact ⟨I, rfl, fun _ _ => rfl, fun _ _ => rfl, fun j _ _ => by omega⟩
    · rw [if_neg (c_nle 40 40 (by omega)), grd_t (bnd_nI hs (by omega)), grd_t (bnd_nI (by omega) (by omega)), nI_clamp (by omega), nI_clamp (by omega), nI_1]
      obtain ⟨J, j1, j2, j3, j4⟩ := ih (i + 1) (xu I (80 + s) i 0) (by omega) (by omega)
      refine ⟨J, j1, fun c hc => by rw [j2 c hc, xu_ne hc], fun j hj => by rw [j3 j (by omega), xu_rn (by omega)], fun j h1 h2 => ?_⟩
      by_cases e : j = i
      · subst e; rw [j3 j (by omega), xu_rr]
      · exact j4 j (by omega) h2
theorem wipe_m (s : Nat) (hs : s < 4) : ∀ f i (I : HI), i ≤ 40 → 40 - i < f → ∃ J, L_Model_sheet_90 (nI s) f (nI i) I = some J ∧ (∀ c, c ≠ 105 → J c = I c) ∧ (∀ j, (j < 40 * s + i ∨ 40 * s + 40 ≤ j) → J 105 j = I 105 j) ∧ (∀ j, i ≤ j → j < 40 → J 105 (40 * s + j) = 0) := by
  intro f
  induction f with
  | zero => intro i I _ h; omega
  | succ f ih =>
    intro i I hi hf
    unfold L_Model_sheet_90
    by_cases h : 40 ≤ i
    · rw [if_pos (c_le 40 40 h (by omega))]
      exact ⟨I, rfl, fun _ _ => rfl, fun _ _ => rfl, fun j _ _ => by omega⟩
    · rw [if_neg (c_nle 40 40 (by omega)), show (40 : Int32) * nI s = nI (40 * s) from pk_mul 40 s, nI_add, grd_t (bnd_nI (by omega) (by omega)), nI_clamp (by omega), nI_1]
      obtain ⟨J, j1, j2, j3, j4⟩ := ih (i + 1) (xu I 105 (40 * s + i) 0) (by omega) (by omega)
      refine ⟨J, j1, fun c hc => by rw [j2 c hc, xu_ne hc], fun j hj => by rw [j3 j (by omega), xu_rn (by omega)], fun j h1 h2 => ?_⟩
      by_cases e : j = i
      · subst e; rw [j3 _ (by omega), xu_rr]
      · exact j4 j (by omega) h2
theorem sheet_ok (h : Rel B L xs C I) {s : Nat} (hs : s < 4) {b v : Int32} (hb : b = 0 ∨ b = 8 ∨ b = 16 ∨ b = 32) (hv : rg v 40) : OK1 B L xs C (Option.bind (L_H_sheet_75 (nI s) 1000 (0 : Int32) (xu (xu I 84 s b) 85 s v)) fun p9 => some ((1 : Int32), p9)) (fun J => Option.bind (L_Model_sheet_90 (nI s) 1000 (0 : Int32) (xu (xu J 103 s b) 104 s v)) fun p7 => some ((1 : Int32), p7)) := by
  obtain ⟨J, j1, j2, j3, j4⟩ := wipe_c s hs 1000 0 (xu (xu I 84 s b) 85 s v) (by omega) (by omega)
  obtain ⟨K, k1, k2, k3, k4⟩ := wipe_m s hs 1000 0 (xu (xu J 103 s b) 104 s v) (by omega) (by omega)
  refine ⟨1, J, K, by rw [show (0 : Int32) = nI 0 from rfl, j1]; rfl, by show (Option.bind _ _) = _; rw [show (0 : Int32) = nI 0 from rfl, k1]; rfl, ?_⟩
  have hJ : ∀ c, c ≠ 80 + s → c ≠ 84 → c ≠ 85 → J c = I c := fun c c1 c2 c3 => by rw [j2 c c1, xu_ne c3, xu_ne c2]
  have hK : ∀ c, c ≠ 105 → c ≠ 103 → c ≠ 104 → K c = J c := fun c c1 c2 c3 => by rw [k2 c c1, xu_ne c3, xu_ne c2]
  have hsh : SH I := h.2.2.2.2.2.2.2.1
  refine h.upH ?_ ?_ ?_
  · intro c c1 c2
    have hh : ∀ x, x ∈ shc → c ≠ x := fun x hx e => c1 (e ▸ hx)
    rw [hK c (hh 105 (by decide)) (hh 103 (by decide)) (hh 104 (by decide)), hJ c _ (hh 84 (by decide)) (hh 85 (by decide))]
    rcases (show s = 0 ∨ s = 1 ∨ s = 2 ∨ s = 3 by omega) with rfl | rfl | rfl | rfl <;> exact hh _ (by decide)
  · rw [hK 88 (by decide) (by decide) (by decide), hJ 88 (by omega) (by decide) (by decide)]
  · intro r hr
    obtain ⟨a1, a2, a3, a4, a5⟩ := hsh r hr
    have e84 : K 84 r = if r = s then b else I 84 r := by
      rw [hK 84 (by decide) (by decide) (by decide), j2 84 (by omega), xu_qn (by decide), xu_app, if_pos rfl]
    have e85 : K 85 r = if r = s then v else I 85 r := by
      rw [hK 85 (by decide) (by decide) (by decide), j2 85 (by omega), xu_app, if_pos rfl, xu_qn (by decide)]
    have e103 : K 103 r = if r = s then b else I 103 r := by
      rw [k2 103 (by decide), xu_qn (by decide), xu_app, if_pos rfl, hJ 103 (by omega) (by decide) (by decide)]
    have e104 : K 104 r = if r = s then v else I 104 r := by
      rw [k2 104 (by decide), xu_app, if_pos rfl, xu_qn (by decide), hJ 104 (by omega) (by decide) (by decide)]
    rw [e84, e85, e103, e104]
    by_cases e : r = s
    · subst e
      rw [if_pos rfl, if_pos rfl, if_pos rfl, if_pos rfl]
      refine ⟨rfl, rfl, hb, hv, fun j hj => ?_⟩
      rw [hK (80 + r) (by omega) (by omega) (by omega), j4 j (by omega) hj, k4 j (by omega) hj]
    · simp only [if_neg e]
      refine ⟨a1, a2, a3, a4, fun j hj => ?_⟩
      rw [hK (80 + r) (by omega) (by omega) (by omega), hJ (80 + r) (by omega) (by omega) (by omega), k3 _ (by omega), xu_qn (by decide), xu_qn (by decide), hJ 105 (by omega) (by decide) (by decide)]
      exact a5 j hj
theorem ok_sheet (h : Rel B L xs C I) (x y w : Int32) : OK1 B L xs C (M_H_sheet I x y w) (fun J => M_Model_sheet J x y w) := by
  unfold M_H_sheet M_Model_sheet
  simp only [bsome, lt_def]
  rcases ix_case x 4 (by omega) with ⟨s, hs, rfl⟩ | hx
  · simp only [(sht_y hs).1, (sht_y hs).2, if_neg one0, grd_t (bnd_nI hs (by omega)), nI_clamp (show s < 2 ^ 31 by omega)]
    unfold M_H_areBits
    by_cases h0 : y = 0
    · simp only [if_pos h0, if_neg one0]
      exact sheet_ok h hs (Or.inl h0) ⟨0, by omega, rfl⟩
    · simp only [if_neg h0]
      have key : (y = 8 ∨ y = 16 ∨ y = 32) → OK1 B L xs C (if 0 ≤ w then (if w ≤ 40 then (Option.bind (L_H_sheet_75 (nI s) 1000 (0 : Int32) (xu (xu I 84 s y) 85 s w)) fun p9 => some ((1 : Int32), p9)) else M_H_error I 1) else M_H_error I 3) (fun J => if 0 ≤ w then (if w ≤ 40 then (Option.bind (L_Model_sheet_90 (nI s) 1000 (0 : Int32) (xu (xu J 103 s y) 104 s w)) fun p7 => some ((1 : Int32), p7)) else M_Model_finds J 1) else M_Model_finds J 3) := by
        intro hy
        by_cases w0 : 0 ≤ w
        · simp only [if_pos w0]
          by_cases w4 : w ≤ 40
          · simp only [if_pos w4]
            refine sheet_ok h hs (Or.inr hy) ((rg_iff (by decide)).mpr ?_)
            rw [i_le] at w0 w4
            exact ⟨w0, w4⟩
          · simp only [if_neg w4]
            exact err_ok0 1 (by decide) (by decide) h rfl rfl
        · simp only [if_neg w0]
          exact err_ok0 3 (by decide) (by decide) h rfl rfl
      by_cases h8 : y = 8
      · simp only [if_pos h8, if_neg one0]
        exact key (Or.inl h8)
      · simp only [if_neg h8]
        by_cases h16 : y = 16
        · simp only [if_pos h16, if_neg one0]
          exact key (Or.inr (Or.inl h16))
        · simp only [if_neg h16]
          by_cases h32 : y = 32
          · simp only [if_pos h32, if_neg one0]
            exact key (Or.inr (Or.inr h32))
          · simp only [if_neg h32, if_pos rfl]
            exact err_ok0 1 (by decide) (by decide) h rfl rfl
  · simp only [(sht_n hx).1, (sht_n hx).2, if_pos rfl]
    exact err_ok0 1 (by decide) (by decide) h rfl rfl
theorem cutN (x : BitVec 32) (n : Nat) (m : Nat) (hm : m + n = 32) (hn : 0 < n) : (x <<< m).sshiftRight m = BitVec.signExtend 32 (BitVec.signExtend n x) := by
  apply BitVec.eq_of_getLsbD_eq
  intro j hj
  rw [BitVec.getLsbD_sshiftRight, BitVec.getLsbD_signExtend, BitVec.signExtend_eq_setWidth_of_le _ (by omega), BitVec.msb_eq_getLsbD_last, BitVec.msb_eq_getLsbD_last, BitVec.getLsbD_setWidth, BitVec.getLsbD_setWidth, BitVec.getLsbD_shiftLeft, BitVec.getLsbD_shiftLeft]
  have a1 : decide (32 ≤ j) = false := by simp; omega
  have a2 : decide (j < 32) = true := by simp; omega
  rw [a1, a2]
  by_cases h : j < n
  · rw [if_pos h, if_pos (show m + j < 32 by omega)]
    have a3 : decide (m + j < 32) = true := by simp; omega
    have a4 : decide (m + j < m) = false := by simp
    have a5 : decide (j < n) = true := by simp; omega
    rw [a3, a4, a5, show m + j - m = j by omega]
    rfl
  · rw [if_neg h, if_neg (show ¬ m + j < 32 by omega)]
    have a3 : decide (32 - 1 < 32) = true := by simp
    have a4 : decide (32 - 1 < m) = false := by simp; omega
    have a5 : decide (n - 1 < n) = true := by simp; omega
    rw [a3, a4, a5, show 32 - 1 - m = n - 1 by omega]
    rfl
theorem cut8 (x : Int32) : (x <<< (((32 : Int32) - 8) &&& 31)) >>> (((32 : Int32) - 8) &&& 31) = x.toInt8.toInt32 := by
  apply Int32.toBitVec_inj.mp
  rw [Int32.toBitVec_shiftRight, Int32.toBitVec_shiftLeft]
  exact cutN x.toBitVec 8 24 (by decide) (by decide)
theorem cut16 (x : Int32) : (x <<< (((32 : Int32) - 16) &&& 31)) >>> (((32 : Int32) - 16) &&& 31) = x.toInt16.toInt32 := by
  apply Int32.toBitVec_inj.mp
  rw [Int32.toBitVec_shiftRight, Int32.toBitVec_shiftLeft]
  exact cutN x.toBitVec 16 16 (by decide) (by decide)
theorem cut32 (x : Int32) : (x <<< (((32 : Int32) - 32) &&& 31)) >>> (((32 : Int32) - 32) &&& 31) = x := by
  apply Int32.toBitVec_inj.mp
  rw [Int32.toBitVec_shiftRight, Int32.toBitVec_shiftLeft]
  show (x.toBitVec <<< 0).sshiftRight 0 = _
  rw [BitVec.shiftLeft_zero, BitVec.sshiftRight_zero]
/-- one number written on both sides -/
theorem put_rel (h : Rel B L xs C I) {s k : Nat} (hs : s < 4) (hk : k < 40) (v : Int32) : Rel B L xs C (xu (xu I (80 + s) k v) 105 (40 * s + k) v) := by
  have hsh : SH I := h.2.2.2.2.2.2.2.1
  refine h.upH ?_ ?_ ?_
  · intro c c1 c2
    have hh : ∀ x, x ∈ shc → c ≠ x := fun x hx e => c1 (e ▸ hx)
    rw [xu_ne (hh 105 (by decide)), xu_ne]
    rcases (show s = 0 ∨ s = 1 ∨ s = 2 ∨ s = 3 by omega) with rfl | rfl | rfl | rfl <;> exact hh _ (by decide)
  · rw [xu_ne (by decide), xu_ne (by omega)]
  · intro r hr
    obtain ⟨a1, a2, a3, a4, a5⟩ := hsh r hr
    have hc : ∀ c, c ≠ 105 → c ≠ 80 + s → xu (xu I (80 + s) k v) 105 (40 * s + k) v c = I c := fun c h1 h2 => by rw [xu_ne h1, xu_ne h2]
    rw [hc 84 (by decide) (by omega), hc 85 (by decide) (by omega), hc 103 (by decide) (by omega), hc 104 (by decide) (by omega)]
    refine ⟨a1, a2, a3, a4, fun j hj => ?_⟩
    rw [xu_qn (by omega), xu_app, xu_app, if_pos rfl, xu_qn (show (105 : Nat) ≠ 80 + s by omega)]
    by_cases e : r = s
    · subst e
      rw [if_pos rfl]
      by_cases ej : j = k
      · rw [if_pos ej, if_pos (by omega)]
      · rw [if_neg ej, if_neg (by omega)]; exact a5 j hj
    · rw [if_neg (by omega), if_neg (by omega)]; exact a5 j hj
theorem ok_put (h : Rel B L xs C I) (x y w : Int32) : OK1 B L xs C (M_H_put I x y w) (fun J => M_Model_put J x y w) := by
  have hsh : SH I := h.2.2.2.2.2.2.2.1
  unfold M_H_put M_Model_put
  simp only [bsome, lt_def]
  rcases ix_case x 4 (by omega) with ⟨s, hs, rfl⟩ | hx
  · simp only [(sht_y hs).1, (sht_y hs).2, if_neg one0, grd_t (bnd_nI hs (by omega)), nI_clamp (show s < 2 ^ 31 by omega)]
    obtain ⟨a1, a2, a3, a4, a5⟩ := hsh s hs
    by_cases h0 : I 84 s = 0
    · rw [if_pos h0]
      refine err_ok0 2 (by decide) (by decide) h rfl ?_
      show (if xu I 87 2 _ 103 s = 0 then _ else _) = _
      rw [xu_qn (by decide), ← a1, if_pos h0]; rfl
    · rw [if_neg h0]
      obtain ⟨n, hn, hn'⟩ := a4
      rcases ix_case y n (by omega) with ⟨k, hk, rfl⟩ | hy
      · rw [if_neg (nI_pos (by omega)), hn', if_pos (nI_lt hk (by omega)), grd_t (bnd_nI (by omega) (by omega)), nI_clamp (by omega)]
        have main : ∀ v, (I 84 s = 8 → v = w.toInt8.toInt32) → (I 84 s = 16 → v = w.toInt16.toInt32) → (I 84 s = 32 → v = w) → OK1 B L xs C (some (1, xu I (80 + s) k v)) (fun J => if J 103 s = 0 then M_Model_finds J 2 else if M_Model_in (nI k).toInt64 (Int64.ofNat 0) (J 104 s - 1).toInt64 = 0 then M_Model_finds J 1 else if J 103 s = 8 then grd (bnd (40 * nI s + nI k) 160) (some (1, xu J 105 (40 * nI s + nI k).toNatClampNeg w.toInt8.toInt32)) else if J 103 s = 16 then grd (bnd (40 * nI s + nI k) 160) (some (1, xu J 105 (40 * nI s + nI k).toNatClampNeg w.toInt16.toInt32)) else grd (bnd (40 * nI s + nI k) 160) (some (1, xu J 105 (40 * nI s + nI k).toNatClampNeg w))) := by
          intro v v8 v16 v32
          refine ⟨1, xu I (80 + s) k v, xu (xu I (80 + s) k v) 105 (40 * s + k) v, rfl, ?_, put_rel h hs (by omega) v⟩
          show (if xu I (80 + s) k v 103 s = 0 then _ else _) = _
          rw [xu_qn (by omega), xu_qn (by omega), ← a1, ← a2, hn', if_neg h0, inI_y hk (by omega), if_neg one0, show (40 : Int32) * nI s = nI (40 * s) from pk_mul 40 s, nI_add, grd_t (bnd_nI (by omega) (by omega)), grd_t (bnd_nI (by omega) (by omega)), grd_t (bnd_nI (by omega) (by omega)), nI_clamp (by omega)]
          rcases a3 with a3 | a3 | a3 | a3
          · exact absurd a3 h0
          · rw [if_pos a3, v8 a3]
          · rw [if_neg (by rw [a3]; decide), if_pos a3, v16 a3]
          · rw [if_neg (by rw [a3]; decide), if_neg (by rw [a3]; decide), v32 a3]
        refine main _ ?_ ?_ ?_
        · intro e; rw [e]; exact cut8 w
        · intro e; rw [e]; exact cut16 w
        · intro e; rw [e]; exact cut32 w
      · refine err_ok0 1 (by decide) (by decide) h ?_ ?_
        · by_cases h1 : y < 0
          · rw [if_pos h1]; rfl
          · rw [if_neg h1, hn', if_neg]
            · rfl
            · rw [i_lt, nI_toInt (by omega)]
              rw [i_lt] at h1
              have a : (0 : Int32).toInt = 0 := rfl
              omega
        · show (if xu I 87 1 _ 103 s = 0 then _ else _) = _
          rw [xu_qn (by decide), xu_qn (by decide), ← a1, if_neg h0, ← a2, hn', inI _ (by omega), if_neg hy, if_pos rfl]; rfl
  · simp only [(sht_n hx).1, (sht_n hx).2, if_pos rfl]
    exact err_ok0 1 (by decide) (by decide) h rfl rfl
/-- a run of numbers lifted, and laid down -/
theorem lift_m (s k : Nat) (hs : s < 4) (n : Nat) (hn : k + n ≤ 40) (x3 x4 : Int32) : ∀ f i (I : HI), i ≤ n → n - i < f → ∃ J, L_Model_move_115 (nI s) (nI k) x3 x4 (nI n) f (nI i) I = some J ∧ (∀ c, c ≠ 106 → J c = I c) ∧ (∀ j, j < i → J 106 j = I 106 j) ∧ (∀ j, i ≤ j → j < n → J 106 j = I 105 (40 * s + k + j)) := by
  intro f
  induction f with
  | zero => intro i I _ h; omega
  | succ f ih =>
    intro i I hi hf
    unfold L_Model_move_115
    by_cases h : n ≤ i
    · rw [if_pos (nI_le h (by omega))]
      exact ⟨I, rfl, fun _ _ => rfl, fun _ _ => rfl, fun j _ _ => by omega⟩
    · rw [if_neg (nI_ge (by omega) (by omega)), show (40 : Int32) * nI s = nI (40 * s) from pk_mul 40 s, nI_add, nI_add, grd_t (bnd_nI (by omega) (by omega)), grd_t (bnd_nI (by omega) (by omega)), nI_clamp (by omega), nI_clamp (by omega), nI_1]
      obtain ⟨J, j1, j2, j3, j4⟩ := ih (i + 1) (xu I 106 i (I 105 (40 * s + k + i))) (by omega) (by omega)
      refine ⟨J, j1, fun c hc => by rw [j2 c hc, xu_ne hc], fun j hj => by rw [j3 j (by omega), xu_rn (by omega)], fun j h1 h2 => ?_⟩
      by_cases e : j = i
      · subst e; rw [j3 j (by omega), xu_rr]
      · rw [j4 j (by omega) h2, xu_qn (by decide)]
theorem lay_m (s k : Nat) (hs : s < 4) (n : Nat) (hn : k + n ≤ 40) : ∀ f i (I : HI), i ≤ n → n - i < f → ∃ J, L_Model_move_152 (nI s) (nI k) (nI n) f (nI i) I = some J ∧ (∀ c, c ≠ 105 → J c = I c) ∧ (∀ j, (j < 40 * s + k + i ∨ 40 * s + k + n ≤ j) → J 105 j = I 105 j) ∧ (∀ j, i ≤ j → j < n → J 105 (40 * s + k + j) = I 106 j) := by
  intro f
  induction f with
  | zero => intro i I _ h; omega
  | succ f ih =>
    intro i I hi hf
    unfold L_Model_move_152
    by_cases h : n ≤ i
    · rw [if_pos (nI_le h (by omega))]
      exact ⟨I, rfl, fun _ _ => rfl, fun _ _ => rfl, fun j _ _ => by omega⟩
    · rw [if_neg (nI_ge (by omega) (by omega)), show (40 : Int32) * nI s = nI (40 * s) from pk_mul 40 s, nI_add, nI_add, grd_t (bnd_nI (by omega) (by omega)), grd_t (bnd_nI (by omega) (by omega)), nI_clamp (by omega), nI_clamp (by omega), nI_1]
      obtain ⟨J, j1, j2, j3, j4⟩ := ih (i + 1) (xu I 105 (40 * s + k + i) (I 106 i)) (by omega) (by omega)
      refine ⟨J, j1, fun c hc => by rw [j2 c hc, xu_ne hc], fun j hj => by rw [j3 j (by omega), xu_rn (by omega)], fun j h1 h2 => ?_⟩
      by_cases e : j = i
      · subst e; rw [j3 _ (by omega), xu_rr]
      · rw [j4 j (by omega) h2, xu_qn (by decide)]
/-- whether a run stands in a sheet -/
theorem stand_c {s : Nat} (hs : s < 4) {m : Nat} (hm : m ≤ 40) (h85 : I 85 s = nI m) (y w : Int32) : M_H_stand I (nI s) y w = some (if 0 ≤ w.toInt ∧ 0 ≤ y.toInt ∧ y.toInt + w.toInt ≤ m then 1 else 0) := by
  unfold M_H_stand
  rw [grd_t (bnd_nI hs (by omega)), nI_clamp (by omega), h85]
  have a : (0 : Int32).toInt = 0 := rfl
  have ry := i_rng y
  have rw' := i_rng w
  simp only [i_lt, a, nI_toInt (show m < 2 ^ 31 by omega)]
  by_cases h1 : w.toInt < 0
  · rw [if_pos h1, if_neg (by omega)]
  · rw [if_neg h1]
    by_cases h2 : y.toInt < 0
    · rw [if_pos h2, if_neg (by omega)]
    · rw [if_neg h2]
      by_cases h3 : (m : Int) < w.toInt
      · rw [if_pos h3, if_neg (by omega)]
      · rw [if_neg h3, i_sub (by rw [nI_toInt (by omega)]; omega), nI_toInt (by omega)]
        by_cases h4 : (m : Int) - w.toInt < y.toInt
        · rw [if_pos h4, if_neg (by omega)]
        · rw [if_neg h4, if_pos (by omega)]
theorem xr_at {f : Nat → Int32} {r j : Nat} : xrow I r f r j = f j := by unfold xrow; rw [if_pos rfl]
theorem xr_ne {f : Nat → Int32} {r q : Nat} (h : q ≠ r) : xrow I r f q = I q := by unfold xrow; rw [if_neg h]
theorem ok_move (h : Rel B L xs C I) (x y x' y' w : Int32) : OK1 B L xs C (M_H_move I x y x' y' w) (fun J => M_Model_move J x y x' y' w) := by
  have hsh : SH I := h.2.2.2.2.2.2.2.1
  unfold M_H_move M_Model_move
  simp only [bsome, lt_def]
  rcases ix_case x 4 (by omega) with ⟨s, hs, rfl⟩ | hx
  · simp only [(sht_y hs).1, (sht_y hs).2, if_neg one0, grd_t (bnd_nI hs (by omega)), nI_clamp (show s < 2 ^ 31 by omega)]
    rcases ix_case x' 4 (by omega) with ⟨t, ht, rfl⟩ | hx
    · simp only [(sht_y ht).1, (sht_y ht).2, if_neg one0, grd_t (bnd_nI ht (by omega)), nI_clamp (show t < 2 ^ 31 by omega)]
      obtain ⟨a1, a2, a3, ⟨m, a4, a4'⟩, a5⟩ := hsh s hs
      obtain ⟨b1, b2, b3, ⟨m', b4, b4'⟩, b5⟩ := hsh t ht
      by_cases h0 : I 84 s = 0
      · rw [if_pos h0]
        refine err_ok0 2 (by decide) (by decide) h rfl ?_
        show (if xu I 87 2 _ 103 s = 0 then _ else _) = _
        rw [xu_qn (by decide), ← a1, if_pos h0]; rfl
      · rw [if_neg h0]
        by_cases h0' : I 84 t = 0
        · rw [if_pos h0']
          refine err_ok0 2 (by decide) (by decide) h rfl ?_
          show (if xu I 87 2 _ 103 s = 0 then _ else _) = _
          rw [xu_qn (by decide), ← a1, if_neg h0, xu_qn (by decide), ← b1, if_pos h0']; rfl
        · rw [if_neg h0']
          by_cases he : I 84 s = I 84 t
          · rw [if_pos he, stand_c hs a4 a4', stand_c ht b4 b4', Option.bind_some]
            have mm : ∀ J : HI, (∀ c, c ≠ 87 → (∀ r, r < 4 → c ≠ 80 + r) → J c = I c) → ∀ (Z : Option (Int32 × HI)), (if J 103 s = 0 then M_Model_finds J 2 else if J 103 t = 0 then M_Model_finds J 2 else if J 103 s = J 103 t then (if w < 0 then M_Model_finds J 1 else if y < 0 then M_Model_finds J 1 else if y' < 0 then M_Model_finds J 1 else if J 104 s - y < w then M_Model_finds J 1 else if w ≤ J 104 t - y' then Z else M_Model_finds J 1) else M_Model_finds J 5) = if (0 ≤ w.toInt ∧ 0 ≤ y.toInt ∧ y.toInt + w.toInt ≤ m) ∧ (0 ≤ w.toInt ∧ 0 ≤ y'.toInt ∧ y'.toInt + w.toInt ≤ m') then Z else M_Model_finds J 1 := by
              intro J hJ Z
              rw [hJ 103 (by decide) (by omega), hJ 104 (by decide) (by omega), ← a1, ← b1, if_neg h0, if_neg h0', if_pos he, ← a2, ← b2, a4', b4']
              have a : (0 : Int32).toInt = 0 := rfl
              have ry := i_rng y
              have ry' := i_rng y'
              have rw' := i_rng w
              simp only [i_lt, i_le, a]
              by_cases h1 : w.toInt < 0
              · rw [if_pos h1, if_neg (by omega)]
              · rw [if_neg h1]
                by_cases h2 : y.toInt < 0
                · rw [if_pos h2, if_neg (by omega)]
                · rw [if_neg h2]
                  by_cases h3 : y'.toInt < 0
                  · rw [if_pos h3, if_neg (by omega)]
                  · rw [if_neg h3, i_sub (by rw [nI_toInt (by omega)]; omega), nI_toInt (by omega), i_sub (by rw [nI_toInt (by omega)]; omega), nI_toInt (by omega)]
                    by_cases h4 : (m : Int) - y.toInt < w.toInt
                    · rw [if_pos h4, if_neg (by omega)]
                    · rw [if_neg h4]
                      by_cases h5 : w.toInt ≤ (m' : Int) - y'.toInt
                      · rw [if_pos h5, if_pos (by omega)]
                      · rw [if_neg h5, if_neg (by omega)]
            have er : ¬ ((0 ≤ w.toInt ∧ 0 ≤ y.toInt ∧ y.toInt + w.toInt ≤ m) ∧ (0 ≤ w.toInt ∧ 0 ≤ y'.toInt ∧ y'.toInt + w.toInt ≤ m')) → ∀ (h' : Option (Int32 × HI)), h' = M_H_error I 1 → OK1 B L xs C h' (fun J => if J 103 s = 0 then M_Model_finds J 2 else if J 103 t = 0 then M_Model_finds J 2 else if J 103 s = J 103 t then (if w < 0 then M_Model_finds J 1 else if y < 0 then M_Model_finds J 1 else if y' < 0 then M_Model_finds J 1 else if J 104 s - y < w then M_Model_finds J 1 else if w ≤ J 104 t - y' then ((L_Model_move_115 (nI s) y (nI t) y' w 1000 0 J).bind fun p21 => (L_Model_move_152 (nI t) y' w 1000 0 p21).bind fun p22 => some (w, p22)) else M_Model_finds J 1) else M_Model_finds J 5) := by
              intro hn h' hh
              refine err_ok0 1 (by decide) (by decide) h hh ?_
              show (if _ = 0 then _ else _) = _
              rw [mm _ (fun c h1 _ => xu_ne h1), if_neg hn]; rfl
            by_cases q1 : 0 ≤ w.toInt ∧ 0 ≤ y.toInt ∧ y.toInt + w.toInt ≤ m
            · rw [if_pos q1, if_neg one0, Option.bind_some]
              by_cases q2 : 0 ≤ w.toInt ∧ 0 ≤ y'.toInt ∧ y'.toInt + w.toInt ≤ m'
              · rw [if_pos q2, if_neg one0]
                obtain ⟨n, hn, rfl⟩ : ∃ n : Nat, n ≤ 40 ∧ w = nI n := ⟨w.toInt.toNat, by omega, i_nI q1.1⟩
                obtain ⟨k, hk, rfl⟩ : ∃ n : Nat, n ≤ 40 ∧ y = nI n := ⟨y.toInt.toNat, by omega, i_nI q1.2.1⟩
                obtain ⟨k', hk', rfl⟩ : ∃ n : Nat, n ≤ 40 ∧ y' = nI n := ⟨y'.toInt.toNat, by omega, i_nI q2.2.1⟩
                have u1 : k + n ≤ 40 := by
                  have := q1.2.2
                  rw [nI_toInt (by omega), nI_toInt (by omega)] at this
                  omega
                have u2 : k' + n ≤ 40 := by
                  have := q2.2.2
                  rw [nI_toInt (by omega), nI_toInt (by omega)] at this
                  omega
                have hb : bcp (nI k) (nI k') (nI n) 40 40 = true := by
                  unfold bcp
                  rw [nI_clamp (by omega), nI_clamp (by omega), nI_clamp (by omega)]
                  simp only [Bool.and_eq_true, decide_eq_true_eq, Nat.ble_eq]
                  exact ⟨nI_pos' (by omega), nI_pos' (by omega), nI_pos' (by omega), u1, u2⟩
                rw [grd_t hb, nI_clamp (by omega), nI_clamp (by omega), nI_clamp (by omega)]
                generalize hJ : xrow I (80 + t) (va_cpy (I (80 + s)) (I (80 + t)) k k' n) = J
                have j1 : ∀ c, c ≠ 80 + t → J c = I c := fun c hc => by rw [← hJ, xr_ne hc]
                have j2 : ∀ j, J (80 + t) j = if k' ≤ j ∧ j < k' + n then I (80 + s) (k + (j - k')) else I (80 + t) j := fun j => by rw [← hJ, xr_at]; rfl
                obtain ⟨M, m1, m2, m3, m4⟩ := lift_m s k hs n u1 (nI t) (nI k') 1000 0 J (by omega) (by omega)
                obtain ⟨K, k1, k2, k3, k4⟩ := lay_m t k' ht n u2 1000 0 M (by omega) (by omega)
                refine ⟨nI n, J, K, rfl, ?_, ?_⟩
                · show (if _ = 0 then _ else _) = _
                  rw [mm J (fun c _ hc => j1 c (hc t ht)), if_pos ⟨q1, q2⟩, show (0 : Int32) = nI 0 from rfl, m1, Option.bind_some, k1, Option.bind_some]
                · have hK : ∀ c, c ≠ 105 → c ≠ 106 → K c = J c := fun c c1 c2 => by rw [k2 c c1, m2 c c2]
                  refine h.upH ?_ ?_ ?_
                  · intro c c1 c2
                    have hh : ∀ x, x ∈ shc → c ≠ x := fun x hx e => c1 (e ▸ hx)
                    rw [hK c (hh 105 (by decide)) (by rintro rfl; exact c2 (by decide)), j1]
                    rcases (show t = 0 ∨ t = 1 ∨ t = 2 ∨ t = 3 by omega) with rfl | rfl | rfl | rfl <;> exact hh _ (by decide)
                  · rw [hK 88 (by decide) (by decide), j1 88 (by omega)]
                  · intro r hr
                    obtain ⟨c1, c2, c3, c4, c5⟩ := hsh r hr
                    rw [hK 84 (by decide) (by decide), hK 85 (by decide) (by decide), hK 103 (by decide) (by decide), hK 104 (by decide) (by decide), j1 84 (by omega), j1 85 (by omega), j1 103 (by omega), j1 104 (by omega), hK (80 + r) (by omega) (by omega)]
                    refine ⟨c1, c2, c3, c4, fun j hj => ?_⟩
                    have h105 : M 105 = I 105 := by rw [m2 105 (by decide), j1 105 (by omega)]
                    by_cases er : r = t
                    · subst er
                      rw [j2]
                      by_cases hin : k' ≤ j ∧ j < k' + n
                      · rw [if_pos hin]
                        have q := k4 (j - k') (by omega) (by omega)
                        rw [show 40 * r + k' + (j - k') = 40 * r + j by omega] at q
                        rw [q, m4 _ (by omega) (by omega), j1 105 (by omega), a5 _ (by omega)]
                        congr 1
                        omega
                      · rw [if_neg hin, k3 _ (by omega), h105]
                        exact c5 j hj
                    · rw [j1 _ (by omega), k3 _ (by omega), h105]
                      exact c5 j hj
              · rw [if_neg q2, if_pos rfl]
                exact er (fun q => q2 q.2) _ rfl
            · rw [if_neg q1, if_pos rfl]
              exact er (fun q => q1 q.1) _ rfl
          · rw [if_neg he]
            refine err_ok0 5 (by decide) (by decide) h rfl ?_
            show (if xu I 87 5 _ 103 s = 0 then _ else _) = _
            rw [xu_qn (by decide), ← a1, if_neg h0, xu_qn (by decide), ← b1, if_neg h0', if_neg he]; rfl
    · simp only [(sht_n hx).1, (sht_n hx).2, if_pos rfl]
      exact err_ok0 1 (by decide) (by decide) h rfl rfl
  · simp only [(sht_n hx).1, (sht_n hx).2, if_pos rfl]
    exact err_ok0 1 (by decide) (by decide) h rfl rfl
end RS
