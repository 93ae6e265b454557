/-! the law's loop agrees -/
section LW
variable {B L : Nat} {xs : Nat → Int32} {C C' : HC} {I J K : HI}
theorem go1 {hh : Option (Int32 × HI)} {m : HI → Option (Int32 × HI)} {T : Int32 × HI → Option (Int32 × HI)} (k : HI → Option (HC × HI)) (ok : OK1 B L xs C hh m) (hT : ∀ v J K, m J = some (v, K) → Rel B L xs C K → T (v, J) = m J) (hk : ∀ K, Rel B L xs C K → ∃ r, k K = some r) : ∃ r, (Option.bind hh fun p => Option.bind (T p) fun q => if p.1 = q.1 then k q.2 else none) = some r := by
  obtain ⟨v, J, K, a1, a2, a3⟩ := ok
  obtain ⟨r, hr⟩ := hk K a3
  refine ⟨r, ?_⟩
  rw [a1, Option.bind_some, hT v J K a2 a3, a2, Option.bind_some]
  show (if v = v then k K else none) = some r
  rw [if_pos rfl, hr]
theorem go2 {hh : Option (Int32 × HC × HI)} {m : HI → Option (Int32 × HI)} {T : Int32 × HC × HI → Option (HC × HI)} (k : HC → HI → Option (HC × HI)) (ok : OK2 B L xs hh m) (hT : ∀ v C' J K, m J = some (v, K) → Rel (B + 9) L xs C' K → T (v, C', J) = Option.bind (m J) fun q => if v = q.1 then k C' q.2 else none) (hk : ∀ C' K, Rel (B + 9) L xs C' K → ∃ r, k C' K = some r) : ∃ r, (Option.bind hh T) = some r := by
  obtain ⟨v, C', J, K, a1, a2, a3⟩ := ok
  obtain ⟨r, hr⟩ := hk C' K a3
  refine ⟨r, ?_⟩
  rw [a1, Option.bind_some, hT v C' J K a2 a3, a2, Option.bind_some]
  show (if v = v then k C' K else none) = some r
  rw [if_pos rfl, hr]
theorem Rel.sc (h : Rel B L xs C I) : I 1000000 = xs := h.2.2.2.2.2.2.2.2.2
theorem Rel.hl (h : Rel B L xs C I) : hL C = L := h.1.2.1
theorem sub6 (h : L ≤ 384) : (nI L - 6).toInt = (L : Int) - 6 := by
  rw [i_sub (by rw [nI_toInt (by omega)]; simp; omega), nI_toInt (by omega)]
  rfl
set_option maxRecDepth 20000 in
set_option maxHeartbeats 4000000 in
theorem law_ok (hL : L ≤ 384) : ∀ f i B (C : HC) (I : HI), Rel B L xs C I → i ≤ L + 6 → L + 6 - i < 6 * f → B + 9 * f + 9 < 800000 → ∃ r, L_Law_law_18 f (nI i) C I = some r := by
  intro f
  induction f with
  | zero => intro i B C I _ _ h; omega
  | succ f ih =>
    intro i B C I h hi hf hB
    have s6 := sub6 (L := L) hL
    rw [L_Law_law_18, h.hl]
    by_cases c : L < i + 6
    · rw [if_pos (by rw [i_lt, s6, nI_toInt (by omega)]; omega)]
      exact ⟨_, rfl⟩
    rw [if_neg (by rw [i_lt, s6, nI_toInt (by omega)]; omega)]
    have n1 : ∀ K, Rel B L xs C K → ∃ r, L_Law_law_18 f (nI (i + 6)) C K = some r := fun K hK => ih (i + 6) B C K hK (by omega) (by omega) (by omega)
    have n2 : ∀ C' K, Rel (B + 9) L xs C' K → ∃ r, L_Law_law_18 f (nI (i + 6)) C' K = some r := fun C' K hK => ih (i + 6) (B + 9) C' K hK (by omega) (by omega) (by omega)
    have b0 : bnd (nI i) L = true := bnd_nI (by omega) (by omega)
    have e1 : nI i + (1 : Int32) = nI (i + 1) := nI_add i 1
    have e2 : nI i + (2 : Int32) = nI (i + 2) := nI_add i 2
    have e3 : nI i + (3 : Int32) = nI (i + 3) := nI_add i 3
    have e4 : nI i + (4 : Int32) = nI (i + 4) := nI_add i 4
    have e5 : nI i + (5 : Int32) = nI (i + 5) := nI_add i 5
    have e6 : nI i + (6 : Int32) = nI (i + 6) := nI_add i 6
    have b1 : bnd (nI (i + 1)) L = true := bnd_nI (by omega) (by omega)
    have b2 : bnd (nI (i + 2)) L = true := bnd_nI (by omega) (by omega)
    have b3 : bnd (nI (i + 3)) L = true := bnd_nI (by omega) (by omega)
    have b4 : bnd (nI (i + 4)) L = true := bnd_nI (by omega) (by omega)
    have b5 : bnd (nI (i + 5)) L = true := bnd_nI (by omega) (by omega)
    rw [e1, e2, e3, e4, e5, e6, nI_clamp (show i < 2 ^ 31 by omega), nI_clamp (show i + 1 < 2 ^ 31 by omega), nI_clamp (show i + 2 < 2 ^ 31 by omega), nI_clamp (show i + 3 < 2 ^ 31 by omega), nI_clamp (show i + 4 < 2 ^ 31 by omega), nI_clamp (show i + 5 < 2 ^ 31 by omega), grd_t b0]
    by_cases c0 : (I 1000000 i &&& (63 : Int32)) = (0 : Int32)
    · rw [if_pos c0, grd_t b1, grd_t b2, grd_t b3]
      refine go2 (fun C' K => L_Law_law_18 f (nI (i + 6)) C' K) (ok_stroke h (by omega) (I 1000000 (i + 1)) (I 1000000 (i + 2)) (I 1000000 (i + 3))) (fun v C' J K a b => ?_) n2
      have w := w_Model_stroke a 1000000 (by decide)
      have e : J 1000000 = I 1000000 := w.symm.trans (b.sc.trans h.sc.symm)
      simp only []
      rw [b.hl, grd_t b1, grd_t b2, grd_t b3, e]
    rw [if_neg c0]
    by_cases c1 : (I 1000000 i &&& (63 : Int32)) = (1 : Int32)
    · rw [if_pos c1, grd_t b1, grd_t b2]
      refine go1 (fun K => L_Law_law_18 f (nI (i + 6)) C K) (ok_ofStroke h (I 1000000 (i + 1)) (I 1000000 (i + 2))) (fun v J K a b => ?_) n1
      have w := w_Model_ofStroke a 1000000 (by decide)
      have e : J 1000000 = I 1000000 := w.symm.trans (b.sc.trans h.sc.symm)
      show M_Model_ofStroke J (J 1000000 (i + 1)) (J 1000000 (i + 2)) = M_Model_ofStroke J (I 1000000 (i + 1)) (I 1000000 (i + 2))
      rw [e]
    rw [if_neg c1]
    by_cases c2 : (I 1000000 i &&& (63 : Int32)) = (2 : Int32)
    · rw [if_pos c2, grd_t b1, grd_t b2, grd_t b3]
      refine go1 (fun K => L_Law_law_18 f (nI (i + 6)) C K) (ok_change h (I 1000000 (i + 1)) (I 1000000 (i + 2)) (I 1000000 (i + 3))) (fun v J K a b => ?_) n1
      have w := w_Model_change a 1000000 (by decide)
      have e : J 1000000 = I 1000000 := w.symm.trans (b.sc.trans h.sc.symm)
      show M_Model_change J (J 1000000 (i + 1)) (J 1000000 (i + 2)) (J 1000000 (i + 3)) = M_Model_change J (I 1000000 (i + 1)) (I 1000000 (i + 2)) (I 1000000 (i + 3))
      rw [e]
    rw [if_neg c2]
    by_cases c3 : (I 1000000 i &&& (63 : Int32)) = (3 : Int32)
    · rw [if_pos c3, grd_t b1, grd_t b2]
      refine go2 (fun C' K => L_Law_law_18 f (nI (i + 6)) C' K) (ok_become h (by omega) (I 1000000 (i + 1)) (I 1000000 (i + 2))) (fun v C' J K a b => ?_) n2
      have w := w_Model_become a 1000000 (by decide)
      have e : J 1000000 = I 1000000 := w.symm.trans (b.sc.trans h.sc.symm)
      simp only []
      rw [b.hl, grd_t b1, grd_t b2, e]
    rw [if_neg c3]
    by_cases c4 : (I 1000000 i &&& (63 : Int32)) = (4 : Int32)
    · rw [if_pos c4, grd_t b1, grd_t b2]
      refine go1 (fun K => L_Law_law_18 f (nI (i + 6)) C K) (ok_as h (I 1000000 (i + 1)) (I 1000000 (i + 2))) (fun v J K a b => ?_) n1
      have w := w_Model_as a 1000000 (by decide)
      have e : J 1000000 = I 1000000 := w.symm.trans (b.sc.trans h.sc.symm)
      show M_Model_as J (J 1000000 (i + 1)) (J 1000000 (i + 2)) = M_Model_as J (I 1000000 (i + 1)) (I 1000000 (i + 2))
      rw [e]
    rw [if_neg c4]
    by_cases c5 : (I 1000000 i &&& (63 : Int32)) = (5 : Int32)
    · rw [if_pos c5, grd_t b1, grd_t b2, grd_t b3]
      refine go1 (fun K => L_Law_law_18 f (nI (i + 6)) C K) (ok_over h (I 1000000 (i + 1)) (I 1000000 (i + 2)) (I 1000000 (i + 3))) (fun v J K a b => ?_) n1
      have w := w_Model_over a 1000000 (by decide)
      have e : J 1000000 = I 1000000 := w.symm.trans (b.sc.trans h.sc.symm)
      show M_Model_over J (J 1000000 (i + 1)) (J 1000000 (i + 2)) (J 1000000 (i + 3)) = M_Model_over J (I 1000000 (i + 1)) (I 1000000 (i + 2)) (I 1000000 (i + 3))
      rw [e]
    rw [if_neg c5]
    by_cases c6 : (I 1000000 i &&& (63 : Int32)) = (6 : Int32)
    · rw [if_pos c6, grd_t b1, grd_t b2]
      refine go1 (fun K => L_Law_law_18 f (nI (i + 6)) C K) (ok_ofLook h (I 1000000 (i + 1)) (I 1000000 (i + 2))) (fun v J K a b => ?_) n1
      have w := w_Model_ofLook a 1000000 (by decide)
      have e : J 1000000 = I 1000000 := w.symm.trans (b.sc.trans h.sc.symm)
      show M_Model_ofLook J (J 1000000 (i + 1)) (J 1000000 (i + 2)) = M_Model_ofLook J (I 1000000 (i + 1)) (I 1000000 (i + 2))
      rw [e]
    rw [if_neg c6]
    by_cases c7 : (I 1000000 i &&& (63 : Int32)) = (7 : Int32)
    · rw [if_pos c7, grd_t b1, grd_t b2]
      refine go1 (fun K => L_Law_law_18 f (nI (i + 6)) C K) (ok_see h (I 1000000 (i + 1)) (I 1000000 (i + 2))) (fun v J K a b => ?_) n1
      have w := w_Model_see a 1000000 (by decide)
      have e : J 1000000 = I 1000000 := w.symm.trans (b.sc.trans h.sc.symm)
      show M_Model_see J (J 1000000 (i + 1)) (J 1000000 (i + 2)) = M_Model_see J (I 1000000 (i + 1)) (I 1000000 (i + 2))
      rw [e]
    rw [if_neg c7]
    by_cases c8 : (I 1000000 i &&& (63 : Int32)) = (8 : Int32)
    · rw [if_pos c8]
      refine go1 (fun K => L_Law_law_18 f (nI (i + 6)) C K) (ok_forget h ) (fun v J K a b => ?_) n1
      rfl
    rw [if_neg c8]
    by_cases c9 : (I 1000000 i &&& (63 : Int32)) = (9 : Int32)
    · rw [if_pos c9, grd_t b1, grd_t b2, grd_t b3]
      refine go1 (fun K => L_Law_law_18 f (nI (i + 6)) C K) (ok_feed h ((((I 1000000 (i + 1)).toInt64) <<< ((32 : Int32).toInt64 &&& (63 : Int64))) ||| (((I 1000000 (i + 2)).toInt64) &&& (Int64.ofNat 4294967295))) (I 1000000 (i + 3))) (fun v J K a b => ?_) n1
      have w := w_Model_feed a 1000000 (by decide)
      have e : J 1000000 = I 1000000 := w.symm.trans (b.sc.trans h.sc.symm)
      show M_Model_feed J ((((J 1000000 (i + 1)).toInt64) <<< ((32 : Int32).toInt64 &&& (63 : Int64))) ||| (((J 1000000 (i + 2)).toInt64) &&& (Int64.ofNat 4294967295))) (J 1000000 (i + 3)) = M_Model_feed J ((((I 1000000 (i + 1)).toInt64) <<< ((32 : Int32).toInt64 &&& (63 : Int64))) ||| (((I 1000000 (i + 2)).toInt64) &&& (Int64.ofNat 4294967295))) (I 1000000 (i + 3))
      rw [e]
    rw [if_neg c9]
    by_cases c10 : (I 1000000 i &&& (63 : Int32)) = (10 : Int32)
    · rw [if_pos c10, grd_t b1]
      refine go2 (fun C' K => L_Law_law_18 f (nI (i + 6)) C' K) (ok_text h (I 1000000 (i + 1))) (fun v C' J K a b => ?_) n2
      have w := w_Model_text a 1000000 (by decide)
      have e : J 1000000 = I 1000000 := w.symm.trans (b.sc.trans h.sc.symm)
      simp only []
      rw [b.hl, grd_t b1, e]
    rw [if_neg c10]
    by_cases c11 : (I 1000000 i &&& (63 : Int32)) = (11 : Int32)
    · rw [if_pos c11, grd_t b1, grd_t b2, grd_t b3, grd_t b4, grd_t b5]
      refine go1 (fun K => L_Law_law_18 f (nI (i + 6)) C K) (ok_law h (I 1000000 (i + 1)) (I 1000000 (i + 2)) (I 1000000 (i + 3)) (I 1000000 (i + 4)) (I 1000000 (i + 5))) (fun v J K a b => ?_) n1
      have w := w_Model_law a 1000000 (by decide)
      have e : J 1000000 = I 1000000 := w.symm.trans (b.sc.trans h.sc.symm)
      show M_Model_law J (J 1000000 (i + 1)) (J 1000000 (i + 2)) (J 1000000 (i + 3)) (J 1000000 (i + 4)) (J 1000000 (i + 5)) = M_Model_law J (I 1000000 (i + 1)) (I 1000000 (i + 2)) (I 1000000 (i + 3)) (I 1000000 (i + 4)) (I 1000000 (i + 5))
      rw [e]
    rw [if_neg c11]
    by_cases c12 : (I 1000000 i &&& (63 : Int32)) = (12 : Int32)
    · rw [if_pos c12]
      refine go1 (fun K => L_Law_law_18 f (nI (i + 6)) C K) (ok_orders h ) (fun v J K a b => ?_) n1
      rfl
    rw [if_neg c12]
    by_cases c13 : (I 1000000 i &&& (63 : Int32)) = (13 : Int32)
    · rw [if_pos c13, grd_t b1, grd_t b2]
      refine go1 (fun K => L_Law_law_18 f (nI (i + 6)) C K) (ok_sure h (I 1000000 (i + 1)) (I 1000000 (i + 2))) (fun v J K a b => ?_) n1
      have w := w_Model_sure a 1000000 (by decide)
      have e : J 1000000 = I 1000000 := w.symm.trans (b.sc.trans h.sc.symm)
      show M_Model_sure J (J 1000000 (i + 1)) (J 1000000 (i + 2)) = M_Model_sure J (I 1000000 (i + 1)) (I 1000000 (i + 2))
      rw [e]
    rw [if_neg c13]
    by_cases c14 : (I 1000000 i &&& (63 : Int32)) = (14 : Int32)
    · rw [if_pos c14, grd_t b1]
      refine go1 (fun K => L_Law_law_18 f (nI (i + 6)) C K) (ok_wrong h (I 1000000 (i + 1))) (fun v J K a b => ?_) n1
      have w := w_Model_wrong_ a 1000000 (by decide)
      have e : J 1000000 = I 1000000 := w.symm.trans (b.sc.trans h.sc.symm)
      show M_Model_wrong_ J (J 1000000 (i + 1)) = M_Model_wrong_ J (I 1000000 (i + 1))
      rw [e]
    rw [if_neg c14]
    by_cases c15 : (I 1000000 i &&& (63 : Int32)) = (15 : Int32)
    · rw [if_pos c15, grd_t b1]
      refine go1 (fun K => L_Law_law_18 f (nI (i + 6)) C K) (ok_best h (I 1000000 (i + 1))) (fun v J K a b => ?_) n1
      have w := w_Model_best a 1000000 (by decide)
      have e : J 1000000 = I 1000000 := w.symm.trans (b.sc.trans h.sc.symm)
      show M_Model_best J (J 1000000 (i + 1)) = M_Model_best J (I 1000000 (i + 1))
      rw [e]
    rw [if_neg c15]
    by_cases c16 : (I 1000000 i &&& (63 : Int32)) = (16 : Int32)
    · rw [if_pos c16, grd_t b1, grd_t b2]
      refine go1 (fun K => L_Law_law_18 f (nI (i + 6)) C K) (ok_span h (I 1000000 (i + 1)) (I 1000000 (i + 2))) (fun v J K a b => ?_) n1
      have w := w_Model_span a 1000000 (by decide)
      have e : J 1000000 = I 1000000 := w.symm.trans (b.sc.trans h.sc.symm)
      show M_Model_span J (J 1000000 (i + 1)) (J 1000000 (i + 2)) = M_Model_span J (I 1000000 (i + 1)) (I 1000000 (i + 2))
      rw [e]
    rw [if_neg c16]
    by_cases c17 : (I 1000000 i &&& (63 : Int32)) = (17 : Int32)
    · rw [if_pos c17, grd_t b1, grd_t b2]
      refine go1 (fun K => L_Law_law_18 f (nI (i + 6)) C K) (ok_test h (I 1000000 (i + 1)) (I 1000000 (i + 2))) (fun v J K a b => ?_) n1
      have w := w_Model_test a 1000000 (by decide)
      have e : J 1000000 = I 1000000 := w.symm.trans (b.sc.trans h.sc.symm)
      show M_Model_test J (J 1000000 (i + 1)) (J 1000000 (i + 2)) = M_Model_test J (I 1000000 (i + 1)) (I 1000000 (i + 2))
      rw [e]
    rw [if_neg c17]
    by_cases c18 : (I 1000000 i &&& (63 : Int32)) = (18 : Int32)
    · rw [if_pos c18, grd_t b1]
      refine go1 (fun K => L_Law_law_18 f (nI (i + 6)) C K) (ok_next h (I 1000000 (i + 1))) (fun v J K a b => ?_) n1
      have w := w_Model_next a 1000000 (by decide)
      have e : J 1000000 = I 1000000 := w.symm.trans (b.sc.trans h.sc.symm)
      show M_Model_next J (J 1000000 (i + 1)) = M_Model_next J (I 1000000 (i + 1))
      rw [e]
    rw [if_neg c18]
    by_cases c19 : (I 1000000 i &&& (63 : Int32)) = (19 : Int32)
    · rw [if_pos c19, grd_t b1, grd_t b2]
      refine go1 (fun K => L_Law_law_18 f (nI (i + 6)) C K) (ok_join h (I 1000000 (i + 1)) (I 1000000 (i + 2))) (fun v J K a b => ?_) n1
      have w := w_Model_join a 1000000 (by decide)
      have e : J 1000000 = I 1000000 := w.symm.trans (b.sc.trans h.sc.symm)
      show M_Model_join J (J 1000000 (i + 1)) (J 1000000 (i + 2)) = M_Model_join J (I 1000000 (i + 1)) (I 1000000 (i + 2))
      rw [e]
    rw [if_neg c19]
    by_cases c20 : (I 1000000 i &&& (63 : Int32)) = (20 : Int32)
    · rw [if_pos c20, grd_t b1]
      refine go1 (fun K => L_Law_law_18 f (nI (i + 6)) C K) (ok_joinings h (I 1000000 (i + 1))) (fun v J K a b => ?_) n1
      have w := w_Model_joinings a 1000000 (by decide)
      have e : J 1000000 = I 1000000 := w.symm.trans (b.sc.trans h.sc.symm)
      show M_Model_joinings J (J 1000000 (i + 1)) = M_Model_joinings J (I 1000000 (i + 1))
      rw [e]
    rw [if_neg c20]
    by_cases c21 : (I 1000000 i &&& (63 : Int32)) = (21 : Int32)
    · rw [if_pos c21, grd_t b1]
      refine go1 (fun K => L_Law_law_18 f (nI (i + 6)) C K) (ok_times h (I 1000000 (i + 1))) (fun v J K a b => ?_) n1
      have w := w_Model_times a 1000000 (by decide)
      have e : J 1000000 = I 1000000 := w.symm.trans (b.sc.trans h.sc.symm)
      show M_Model_times J (J 1000000 (i + 1)) = M_Model_times J (I 1000000 (i + 1))
      rw [e]
    rw [if_neg c21]
    by_cases c22 : (I 1000000 i &&& (63 : Int32)) = (22 : Int32)
    · rw [if_pos c22, grd_t b1, grd_t b2]
      refine go1 (fun K => L_Law_law_18 f (nI (i + 6)) C K) (ok_lamp h (I 1000000 (i + 1)) (I 1000000 (i + 2))) (fun v J K a b => ?_) n1
      have w := w_Model_lamp a 1000000 (by decide)
      have e : J 1000000 = I 1000000 := w.symm.trans (b.sc.trans h.sc.symm)
      show M_Model_lamp J (J 1000000 (i + 1)) (J 1000000 (i + 2)) = M_Model_lamp J (I 1000000 (i + 1)) (I 1000000 (i + 2))
      rw [e]
    rw [if_neg c22]
    by_cases c23 : (I 1000000 i &&& (63 : Int32)) = (23 : Int32)
    · rw [if_pos c23, grd_t b1]
      refine go1 (fun K => L_Law_law_18 f (nI (i + 6)) C K) (ok_hand h (I 1000000 (i + 1))) (fun v J K a b => ?_) n1
      have w := w_Model_hand a 1000000 (by decide)
      have e : J 1000000 = I 1000000 := w.symm.trans (b.sc.trans h.sc.symm)
      show M_Model_hand J (J 1000000 (i + 1)) = M_Model_hand J (I 1000000 (i + 1))
      rw [e]
    rw [if_neg c23]
    by_cases c24 : (I 1000000 i &&& (63 : Int32)) = (24 : Int32)
    · rw [if_pos c24]
      refine go1 (fun K => L_Law_law_18 f (nI (i + 6)) C K) (ok_again h ) (fun v J K a b => ?_) n1
      rfl
    rw [if_neg c24]
    by_cases c25 : (I 1000000 i &&& (63 : Int32)) = (25 : Int32)
    · rw [if_pos c25, grd_t b1]
      show ∃ r, (Option.bind (some (M_H_seed I (I 1000000 (i + 1)))) fun p => Option.bind (some (M_Model_seed p.2 (p.2 1000000 (i + 1)))) fun q => if p.1 = q.1 then L_Law_law_18 f (nI (i + 6)) C q.2 else none) = some r
      refine go1 (fun K => L_Law_law_18 f (nI (i + 6)) C K) (ok_seed h (I 1000000 (i + 1))) (fun v J K a b => ?_) n1
      have w := w_Model_seed (Option.some.inj a) 1000000 (by decide)
      have e : J 1000000 = I 1000000 := w.symm.trans (b.sc.trans h.sc.symm)
      show some (M_Model_seed J (J 1000000 (i + 1))) = some (M_Model_seed J (I 1000000 (i + 1)))
      rw [e]
    rw [if_neg c25]
    by_cases c26 : (I 1000000 i &&& (63 : Int32)) = (26 : Int32)
    · rw [if_pos c26, grd_t b1, grd_t b2, grd_t b3]
      refine go1 (fun K => L_Law_law_18 f (nI (i + 6)) C K) (ok_voice h (I 1000000 (i + 1)) (I 1000000 (i + 2)) (I 1000000 (i + 3))) (fun v J K a b => ?_) n1
      have w := w_Model_voice a 1000000 (by decide)
      have e : J 1000000 = I 1000000 := w.symm.trans (b.sc.trans h.sc.symm)
      show M_Model_voice J (J 1000000 (i + 1)) (J 1000000 (i + 2)) (J 1000000 (i + 3)) = M_Model_voice J (I 1000000 (i + 1)) (I 1000000 (i + 2)) (I 1000000 (i + 3))
      rw [e]
    rw [if_neg c26]
    by_cases c27 : (I 1000000 i &&& (63 : Int32)) = (27 : Int32)
    · rw [if_pos c27, grd_t b1]
      refine go1 (fun K => L_Law_law_18 f (nI (i + 6)) C K) (ok_trace h (I 1000000 (i + 1))) (fun v J K a b => ?_) n1
      have w := w_Model_trace a 1000000 (by decide)
      have e : J 1000000 = I 1000000 := w.symm.trans (b.sc.trans h.sc.symm)
      show M_Model_trace J (J 1000000 (i + 1)) = M_Model_trace J (I 1000000 (i + 1))
      rw [e]
    rw [if_neg c27]
    by_cases c28 : (I 1000000 i &&& (63 : Int32)) = (28 : Int32)
    · rw [if_pos c28, grd_t b1, grd_t b2, grd_t b3]
      refine go1 (fun K => L_Law_law_18 f (nI (i + 6)) C K) (ok_sheet h (I 1000000 (i + 1)) (I 1000000 (i + 2)) (I 1000000 (i + 3))) (fun v J K a b => ?_) n1
      have w := w_Model_sheet a 1000000 (by decide)
      have e : J 1000000 = I 1000000 := w.symm.trans (b.sc.trans h.sc.symm)
      show M_Model_sheet J (J 1000000 (i + 1)) (J 1000000 (i + 2)) (J 1000000 (i + 3)) = M_Model_sheet J (I 1000000 (i + 1)) (I 1000000 (i + 2)) (I 1000000 (i + 3))
      rw [e]
    rw [if_neg c28]
    by_cases c29 : (I 1000000 i &&& (63 : Int32)) = (29 : Int32)
    · rw [if_pos c29, grd_t b1, grd_t b2, grd_t b3]
      refine go1 (fun K => L_Law_law_18 f (nI (i + 6)) C K) (ok_put h (I 1000000 (i + 1)) (I 1000000 (i + 2)) (I 1000000 (i + 3))) (fun v J K a b => ?_) n1
      have w := w_Model_put a 1000000 (by decide)
      have e : J 1000000 = I 1000000 := w.symm.trans (b.sc.trans h.sc.symm)
      show M_Model_put J (J 1000000 (i + 1)) (J 1000000 (i + 2)) (J 1000000 (i + 3)) = M_Model_put J (I 1000000 (i + 1)) (I 1000000 (i + 2)) (I 1000000 (i + 3))
      rw [e]
    rw [if_neg c29]
    by_cases c30 : (I 1000000 i &&& (63 : Int32)) = (30 : Int32)
    · rw [if_pos c30, grd_t b1, grd_t b2, grd_t b3, grd_t b4, grd_t b5]
      refine go1 (fun K => L_Law_law_18 f (nI (i + 6)) C K) (ok_move h (I 1000000 (i + 1)) (I 1000000 (i + 2)) (I 1000000 (i + 3)) (I 1000000 (i + 4)) (I 1000000 (i + 5))) (fun v J K a b => ?_) n1
      have w := w_Model_move a 1000000 (by decide)
      have e : J 1000000 = I 1000000 := w.symm.trans (b.sc.trans h.sc.symm)
      show M_Model_move J (J 1000000 (i + 1)) (J 1000000 (i + 2)) (J 1000000 (i + 3)) (J 1000000 (i + 4)) (J 1000000 (i + 5)) = M_Model_move J (I 1000000 (i + 1)) (I 1000000 (i + 2)) (I 1000000 (i + 3)) (I 1000000 (i + 4)) (I 1000000 (i + 5))
      rw [e]
    rw [if_neg c30]
    by_cases c31 : (I 1000000 i &&& (63 : Int32)) = (31 : Int32)
    · rw [if_pos c31, grd_t b1]
      refine go1 (fun K => L_Law_law_18 f (nI (i + 6)) C K) (ok_looks h (I 1000000 (i + 1))) (fun v J K a b => ?_) n1
      have w := w_Model_looks a 1000000 (by decide)
      have e : J 1000000 = I 1000000 := w.symm.trans (b.sc.trans h.sc.symm)
      show M_Model_looks J (J 1000000 (i + 1)) = M_Model_looks J (I 1000000 (i + 1))
      rw [e]
    rw [if_neg c31]
    by_cases c32 : (I 1000000 i &&& (63 : Int32)) = (32 : Int32)
    · rw [if_pos c32, grd_t b1]
      refine go1 (fun K => L_Law_law_18 f (nI (i + 6)) C K) (ok_judge h (I 1000000 (i + 1))) (fun v J K a b => ?_) n1
      have w := w_Model_judge a 1000000 (by decide)
      have e : J 1000000 = I 1000000 := w.symm.trans (b.sc.trans h.sc.symm)
      show M_Model_judge J (J 1000000 (i + 1)) = M_Model_judge J (I 1000000 (i + 1))
      rw [e]
    rw [if_neg c32]
    by_cases c33 : (I 1000000 i &&& (63 : Int32)) = (33 : Int32)
    · rw [if_pos c33]
      refine go2 (fun C' K => L_Law_law_18 f (nI (i + 6)) C' K) (ok_image h (by omega) ) (fun v C' J K a b => ?_) n2
      rfl
    rw [if_neg c33]
    by_cases c34 : (I 1000000 i &&& (63 : Int32)) = (34 : Int32)
    · rw [if_pos c34]
      refine go2 (fun C' K => L_Law_law_18 f (nI (i + 6)) C' K) (ok_restore h (by omega) ) (fun v C' J K a b => ?_) n2
      rfl
    rw [if_neg c34]
    by_cases c35 : (I 1000000 i &&& (63 : Int32)) = (35 : Int32)
    · rw [if_pos c35, grd_t b1]
      refine go1 (fun K => L_Law_law_18 f (nI (i + 6)) C K) (ok_tell h (I 1000000 (i + 1))) (fun v J K a b => ?_) n1
      have w := w_Model_tell a 1000000 (by decide)
      have e : J 1000000 = I 1000000 := w.symm.trans (b.sc.trans h.sc.symm)
      show M_Model_tell J (J 1000000 (i + 1)) = M_Model_tell J (I 1000000 (i + 1))
      rw [e]
    rw [if_neg c35]
    by_cases c36 : (I 1000000 i &&& (63 : Int32)) = (36 : Int32)
    · rw [if_pos c36]
      refine go1 (fun K => L_Law_law_18 f (nI (i + 6)) C K) (ok_check h ) (fun v J K a b => ?_) n1
      rfl
    rw [if_neg c36]
    by_cases c37 : (I 1000000 i &&& (63 : Int32)) = (37 : Int32)
    · rw [if_pos c37, grd_t b1]
      refine go1 (fun K => L_Law_law_18 f (nI (i + 6)) C K) (ok_count h (I 1000000 (i + 1))) (fun v J K a b => ?_) n1
      have w := w_Model_count a 1000000 (by decide)
      have e : J 1000000 = I 1000000 := w.symm.trans (b.sc.trans h.sc.symm)
      show M_Model_count J (J 1000000 (i + 1)) = M_Model_count J (I 1000000 (i + 1))
      rw [e]
    rw [if_neg c37]
    by_cases c38 : (I 1000000 i &&& (63 : Int32)) = (38 : Int32)
    · rw [if_pos c38, grd_t b1]
      refine go1 (fun K => L_Law_law_18 f (nI (i + 6)) C K) (ok_told h (I 1000000 (i + 1))) (fun v J K a b => ?_) n1
      have w := w_Model_told a 1000000 (by decide)
      have e : J 1000000 = I 1000000 := w.symm.trans (b.sc.trans h.sc.symm)
      show M_Model_told J (J 1000000 (i + 1)) = M_Model_told J (I 1000000 (i + 1))
      rw [e]
    rw [if_neg c38]
    exact n1 I h
end LW
