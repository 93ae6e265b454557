/-! the width by a test -/
noncomputable def wv (D : Nat → Int32) (t : Nat) (y : Int32) : Int32 := @ite Int32 (okS D (ui (eI D) t y.toInt) (ui (zI D) t (-y.toInt))) (Classical.propDecidable _) (sm (fun s => Int32.ofInt (-(zM D (ui (zI D) t (-y.toInt)) s)) - Int32.ofInt (eM D (ui (eI D) t y.toInt) s)) (nS D)) (-1)
section SN
variable {B L : Nat} {xs : Nat → Int32} {C : HC} {I J K : HI} {D : Nat → Int32}
theorem wv_y {t : Nat} {y : Int32} (h : okS D (ui (eI D) t y.toInt) (ui (zI D) t (-y.toInt))) : wv D t y = sm (fun s => Int32.ofInt (-(zM D (ui (zI D) t (-y.toInt)) s)) - Int32.ofInt (eM D (ui (eI D) t y.toInt) s)) (nS D) := by
  unfold wv
  exact if_pos h
theorem wv_n {t : Nat} {y : Int32} (h : ¬ okS D (ui (eI D) t y.toInt) (ui (zI D) t (-y.toInt))) : wv D t y = -1 := by
  unfold wv
  exact if_neg h
theorem uE_rg {t : Nat} {y : Int} (h : 0 ≤ y ∧ y ≤ 9999) (s : Nat) : 0 ≤ ui (eI D) t y s ∧ ui (eI D) t y s ≤ 9999 := by
  by_cases e : s = t
  · rw [e, ui_s]; exact h
  · rw [ui_n e]; exact eI_rg s
theorem uZ_rg {t : Nat} {y : Int} (h : 0 ≤ y ∧ y ≤ 9999) (s : Nat) : -9999 ≤ ui (zI D) t (-y) s ∧ ui (zI D) t (-y) s ≤ 0 := by
  by_cases e : s = t
  · rw [e, ui_s]; omega
  · rw [ui_n e]; exact zI_rg s
theorem wo4 {n : Nat} {g : Nat → Int32} (hn : n ≤ 8) (hg : ∀ s, s < n → J 74 s - J 73 s = g s) : ∀ f i, i ≤ n → n - i < f → L_Spans_widthOf_4 (nI n) J f (sm g i) (nI i) = some (sm g n) := by
  intro f
  induction f with
  | zero => intro i _ h; omega
  | succ f ih =>
    intro i hi hf
    rw [L_Spans_widthOf_4]
    by_cases e : n ≤ i
    · rw [if_pos (nI_le e (by omega))]
      obtain rfl : i = n := by omega
      rfl
    · rw [if_neg (nI_ge (by omega) (by omega)), grd_t (bnd_nI (by omega) (by omega)), nI_clamp (by omega), nI_1, hg i (by omega), ← sm_s]
      exact ih (i + 1) (by omega) (by omega)
theorem wb32 {g : Nat → Int32} (hD : WD D) (h89 : J 89 = D) (hg : ∀ s, s < nS D → J 99 s - J 98 s = g s) : ∀ f i, i ≤ nS D → nS D - i < f → L_Model_widthBy_32 J f (sm g i) (nI i) = some (sm g (nS D)) := by
  have n8 := hD.1.2
  intro f
  induction f with
  | zero => intro i _ h; omega
  | succ f ih =>
    intro i hi hf
    rw [L_Model_widthBy_32, h89, hD.1.1]
    by_cases e : nS D ≤ i
    · rw [if_pos (nI_le e (by omega))]
      obtain rfl : i = nS D := by omega
      rfl
    · rw [if_neg (nI_ge (by omega) (by omega)), grd_t (bnd_nI (by omega) (by omega)), nI_clamp (by omega), nI_1, hg i (by omega), ← sm_s]
      exact ih (i + 1) (by omega) (by omega)
theorem width_c (h : Rel B L xs C I) {t : Nat} {y : Int32} (ht : t < nS (I 89)) (hy : 0 ≤ y.toInt ∧ y.toInt ≤ 9999) (hJ : ∀ c, c ∉ SCR → J c = I c) (hR : ∀ s, s < nS (I 89) → J 75 s = eY (I 89) s ∧ J 76 s = lY (I 89) s) : ∃ K, M_Spans_widthByTest J (nI t) y = some (wv (I 89) t y, K) ∧ fr [73, 74, 75, 76] J K ∧ K 75 = J 75 ∧ K 76 = J 76 := by
  have n8 := h.n8
  have hJ3 : ∀ c, c ∉ SCR → (xu (xu J 75 t y) 76 t y) c = I c := fun c hc => by rw [xu_ne (by rintro rfl; exact hc (by decide)), xu_ne (by rintro rfl; exact hc (by decide))]; exact hJ c hc
  obtain ⟨v, K, k1, k2, k3⟩ := settle_c h (E := ui (eI (I 89)) t y.toInt) (Z := ui (zI (I 89)) t (-y.toInt)) (J := xu (xu J 75 t y) 76 t y) (fun s _ => uE_rg hy s) (fun s _ => uZ_rg hy s) hJ3 (fun s hs => by
    rw [xu_qn (by decide)]
    by_cases e : s = t
    · rw [e, xu_rr, ui_s]
    · rw [xu_rn e, ui_n e, (hR s hs).1]; rfl) (fun s hs => by
    by_cases e : s = t
    · rw [e, xu_rr, ui_s]
    · rw [xu_rn e, xu_qn (by decide), ui_n e, (hR s hs).2]; rfl)
  have fin : fr [73, 74, 75, 76] J (xu (xu K 75 t (J 75 t)) 76 t (J 76 t)) := fr.wr (by decide) (fr.wr (by decide) (fr.trans (fr.wr (by decide) (fr.wr (by decide) fr.refl)) (fr.sub (by decide) k2)))
  have q75 : (xu (xu K 75 t (J 75 t)) 76 t (J 76 t)) 75 = J 75 := by
    funext s
    rw [xu_qn (by decide)]
    by_cases e : s = t
    · rw [e, xu_rr]
    · rw [xu_rn e, k2 75 (by decide), xu_qn (by decide), xu_rn e]
  have q76 : (xu (xu K 75 t (J 75 t)) 76 t (J 76 t)) 76 = J 76 := by
    funext s
    by_cases e : s = t
    · rw [e, xu_rr]
    · rw [xu_rn e, xu_qn (by decide), k2 76 (by decide), xu_rn e, xu_qn (by decide)]
  refine ⟨_, ?_, fin, q75, q76⟩
  unfold M_Spans_widthByTest
  rw [grd_t (bnd_nI (by omega) (by omega)), nI_clamp (by omega)]
  simp only [lt_def]
  rw [k1, Option.bind_some]
  rcases k3 with ⟨o1, rfl, o2⟩ | ⟨o1, rfl⟩
  · simp only []
    rw [if_neg one0]
    have hk11 : K 1 1 = nI (nS (I 89)) := by rw [k2 1 (by decide), hJ3 1 (by decide)]; exact st_nI h
    unfold M_Spans_widthOf
    rw [hk11, show L_Spans_widthOf_4 (nI (nS (I 89))) K 1000 0 0 = _ from wo4 (g := fun s => Int32.ofInt (-(zM (I 89) (ui (zI (I 89)) t (-y.toInt)) s)) - Int32.ofInt (eM (I 89) (ui (eI (I 89)) t y.toInt) s)) n8 (fun s hs => by rw [ofI (o2 s hs).1, ofN (o2 s hs).2]) 1000 0 (by omega) (by omega), Option.bind_some, Option.bind_some, wv_y o1]
  · simp only []
    rw [if_pos trivial, wv_n o1]
theorem width_m (hD : WD D) (h89 : J 89 = D) {t : Nat} {y : Int32} (ht : t < nS D) (hy : 0 ≤ y.toInt ∧ y.toInt ≤ 9999) : ∃ K, M_Model_widthBy J (nI t) y = some (wv D t y, K) ∧ fr [88, 92, 98, 99] J K ∧ fk [4, 5, 6, 7, 8, 9] J K := by
  have n8 := hD.1.2
  obtain ⟨M, m1, m2, m3, m4⟩ := years_m hD h89
  obtain ⟨v, K, k1, k2, k3⟩ := pushes_m (D := D) (E := ui (eI D) t y.toInt) (Z := ui (zI D) t (-y.toInt)) (J := xu (xu M 98 t y) 99 t y) hD (by rw [xu_ne (by decide), xu_ne (by decide), m2 89 (by decide)]; exact h89) (fun s _ => uE_rg hy s) (fun s _ => uZ_rg hy s) (fun s hs => by
    rw [xu_qn (by decide)]
    by_cases e : s = t
    · rw [e, xu_rr, ui_s]
    · rw [xu_rn e, ui_n e, (m4 s hs).1]; rfl) (fun s hs => by
    by_cases e : s = t
    · rw [e, xu_rr, ui_s]
    · rw [xu_rn e, xu_qn (by decide), ui_n e, (m4 s hs).2]; rfl)
  have fd : fr [98, 99] (xu (xu M 98 t y) 99 t y) K := fun c hc => k2 c (fun e => hc (by simp [e])) (fun e => hc (by simp [e]))
  refine ⟨K, ?_, fr.trans (fr.wr (by decide) (fr.wr (by decide) m2)) (fr.sub (by decide) fd), fk.trans (fk.wr0 (by decide) (fk.wr0 (by decide) m3)) (fk.of (by decide) fd)⟩
  unfold M_Model_widthBy
  rw [m1, Option.bind_some, grd_t (bnd_nI (by omega) (by omega)), nI_clamp (by omega)]
  simp only [lt_def]
  rw [k1, Option.bind_some]
  rcases k3 with ⟨o1, rfl, o2⟩ | ⟨o1, rfl⟩
  · simp only []
    have k89 : K 89 = D := by rw [fd 89 (by decide), xu_ne (by decide), xu_ne (by decide), m2 89 (by decide)]; exact h89
    rw [if_neg one0, show L_Model_widthBy_32 K 1000 0 0 = _ from wb32 (g := fun s => Int32.ofInt (-(zM D (ui (zI D) t (-y.toInt)) s)) - Int32.ofInt (eM D (ui (eI D) t y.toInt) s)) hD k89 (fun s hs => by rw [ofI (o2 s hs).1, ofN (o2 s hs).2]) 1000 0 (by omega) (by omega), Option.bind_some, wv_y o1]
  · simp only []
    rw [if_pos trivial, wv_n o1]
theorem ok_test (h : Rel B L xs C I) (x y : Int32) : OK1 B L xs C (M_H_test C I x y) (fun J => M_Model_test J x y) := by
  have n8 := h.n8
  unfold M_H_test M_Model_test
  simp only [bsome, in_nat y (a := 0) (b := 9999) (by decide) (by decide), within_eq]
  rcases ix_case x (nS (I 89)) (by omega) with ⟨s, hs, rfl⟩ | hx
  · rw [hasS_y (st_nI h) (by omega) hs, if_neg one0]
    have hS : ∀ J : HI, J 89 = I 89 → M_Model_isStroke J (nI s) = 1 := fun J hJ => isS_y (n := nS (I 89)) (by rw [hJ]; exact mS_nI h) (by omega) hs
    by_cases hy : ((0 : Nat) : Int) ≤ y.toInt ∧ y.toInt ≤ ((9999 : Nat) : Int)
    · have hy' : 0 ≤ y.toInt ∧ y.toInt ≤ (9999 : Int32).toInt := hy
      have hy2 : 0 ≤ y.toInt ∧ y.toInt ≤ 9999 := hy
      simp only [if_pos hy, if_pos hy', if_neg one0]
      obtain ⟨J1, a1, a2, a3⟩ := load_c h
      obtain ⟨J2, b1, b2, b3, b4⟩ := width_c h (J := J1) hs hy2 (fun c hc => a2 c (n_scr (by decide) hc)) a3
      have fJ : fr [19, 24, 73, 74, 75, 76] I J2 := fr.trans (fr.sub (by decide) a2) (fr.sub (by decide) b2)
      rw [a1, Option.bind_some, b1, Option.bind_some]
      by_cases e : 0 ≤ wv (I 89) s y
      · obtain ⟨K, k1, k2, k3⟩ := width_m (J := J2) h.2.1 (fJ 89 (by decide)) hs hy2
        refine ok_val h (v := wv (I 89) s y) (J := J2) (K := K) (by rw [if_pos e]) fJ (by decide) (by decide) ?_ k2 (by decide) (k3 2 (by decide)) (k3 21 (by decide))
        show (if M_Model_isStroke J2 (nI s) = 0 then _ else _) = _
        rw [hS J2 (fJ 89 (by decide)), if_neg one0, k1, Option.bind_some, if_pos e]
      · have hR2 : Rel B L xs C J2 := h.fr fJ (by decide) (by rw [fJ 88 (by decide)]) (by rw [fJ 88 (by decide)])
        obtain ⟨K, k1, k2, k3⟩ := width_m (J := xu J2 87 2 (J2 87 2 + 1)) h.2.1 (by rw [xu_ne (by decide)]; exact fJ 89 (by decide)) hs hy2
        refine err_ok 2 (by decide) (by decide) hR2 (W := [88, 92, 98, 99]) ?_ ⟨K, k2, by decide, by rw [k3 2 (by decide), xu_qn (by decide)], by rw [k3 21 (by decide), xu_qn (by decide)], ?_⟩
        · rw [if_neg e]; rfl
        · show (if M_Model_isStroke _ (nI s) = 0 then _ else _) = _
          rw [hS _ (by rw [xu_ne (by decide)]; exact fJ 89 (by decide)), if_neg one0, k1, Option.bind_some, if_neg e]; rfl
    · have hy' : ¬ (0 ≤ y.toInt ∧ y.toInt ≤ (9999 : Int32).toInt) := hy
      simp only [if_neg hy, if_neg hy', if_pos rfl]
      refine err_ok0 1 (by decide) (by decide) h rfl ?_
      rw [hS _ e89, if_neg one0]; rfl
  · refine err_ok0 1 (by decide) (by decide) h ?_ ?_
    · rw [hasS_n (st_nI h) (by omega) hx, if_pos rfl]; rfl
    · show (if M_Model_isStroke _ x = 0 then _ else _) = _
      rw [isS_n (n := nS (I 89)) (by rw [e89]; exact mS_nI h) (by omega) hx, if_pos rfl]; rfl
/-! which stroke to test next -/
noncomputable def frm (D : Nat → Int32) (t : Nat) : Int32 := Int32.ofInt (eM D (eI D) t)
noncomputable def til (D : Nat → Int32) (t : Nat) : Int32 := Int32.ofInt (-(zM D (zI D) t))
noncomputable def wo (D : Nat → Int32) (t : Nat) : Int32 := mmax (mmax (wv D t (frm D t)) (wv D t ((frm D t + til D t) / 2))) (wv D t (til D t))
theorem ft_nI (h : okS D (eI D) (zI D)) {t : Nat} (ht : t < nS D) : ∃ a b : Nat, a ≤ 9999 ∧ b ≤ 9999 ∧ frm D t = nI a ∧ til D t = nI b ∧ (nI a + nI b) / 2 = nI ((a + b) / 2) := by
  have h1 : eI D t ≤ eM D (eI D) t := itr_ge 8 t
  have h2 : zI D t ≤ zM D (zI D) t := itr_ge 8 t
  have h3 := h.2 t ht
  have h4 := eI_rg (D := D) t
  have h5 := zI_rg (D := D) t
  refine ⟨(eM D (eI D) t).toNat, (-(zM D (zI D) t)).toNat, by omega, by omega, ?_, ?_, ?_⟩
  · unfold frm
    rw [show eM D (eI D) t = (((eM D (eI D) t).toNat : Nat) : Int) by omega]
    rfl
  · unfold til
    rw [show -(zM D (zI D) t) = (((-(zM D (zI D) t)).toNat : Nat) : Int) by omega]
    rfl
  · rw [nI_add]
    exact pk_div (d := 2) (by omega) (by decide) (by decide)
theorem mmax3 (a b c : Int32) : (if a ≤ b then (if b ≤ c then c else b) else (if a ≤ c then c else a)) = mmax (mmax a b) c := by
  apply Int32.toInt_inj.mp
  unfold mmax
  simp only [i_le, i_lt]
  by_cases h1 : a.toInt ≤ b.toInt
  · rw [if_pos h1]
    by_cases h2 : a.toInt < b.toInt
    · simp only [if_pos h2]
      by_cases h3 : b.toInt ≤ c.toInt
      · rw [if_pos h3]; split <;> omega
      · rw [if_neg h3, if_neg (by omega)]
    · simp only [if_neg h2]
      by_cases h3 : b.toInt ≤ c.toInt
      · rw [if_pos h3]; split <;> omega
      · rw [if_neg h3, if_neg (by omega)]; omega
  · rw [if_neg h1]
    simp only [if_neg (show ¬ a.toInt < b.toInt by omega)]
    by_cases h3 : a.toInt ≤ c.toInt
    · rw [if_pos h3]; split <;> omega
    · rw [if_neg h3, if_neg (by omega)]
theorem worst_c (h : Rel B L xs C I) (ho : okS (I 89) (eI (I 89)) (zI (I 89))) {t : Nat} (ht : t < nS (I 89)) (hJ : ∀ c, c ∉ SCR → J c = I c) (hR : ∀ s, s < nS (I 89) → J 75 s = eY (I 89) s ∧ J 76 s = lY (I 89) s) (h7 : J 77 t = frm (I 89) t ∧ J 78 t = til (I 89) t) : ∃ K, M_Spans_worstOf J (nI t) = some (wo (I 89) t, K) ∧ fr [73, 74, 75, 76] J K ∧ K 75 = J 75 ∧ K 76 = J 76 := by
  have n8 := h.n8
  obtain ⟨a, b, a1, b1, e1, e2, e3⟩ := ft_nI ho ht
  have r1 : 0 ≤ (nI a).toInt ∧ (nI a).toInt ≤ 9999 := by rw [nI_toInt (by omega)]; omega
  have r2 : 0 ≤ (nI ((a + b) / 2)).toInt ∧ (nI ((a + b) / 2)).toInt ≤ 9999 := by rw [nI_toInt (by omega)]; omega
  have r3 : 0 ≤ (nI b).toInt ∧ (nI b).toInt ≤ 9999 := by rw [nI_toInt (by omega)]; omega
  have sc : ∀ {M M' : HI}, fr [73, 74, 75, 76] M M' → (∀ c, c ∉ SCR → M c = I c) → ∀ c, c ∉ SCR → M' c = I c := fun f g c hc => by rw [f c (n_scr (by decide) hc)]; exact g c hc
  obtain ⟨J1, p1, p2, p3, p4⟩ := width_c h (J := J) ht r1 hJ hR
  have hJ1 := sc p2 hJ
  obtain ⟨J2, q1, q2, q3, q4⟩ := width_c h (J := J1) ht r2 hJ1 (fun s hs => by rw [p3, p4]; exact hR s hs)
  have hJ2 := sc q2 hJ1
  obtain ⟨J3, s1, s2, s3, s4⟩ := width_c h (J := J2) ht r3 hJ2 (fun s hs => by rw [q3, q4, p3, p4]; exact hR s hs)
  refine ⟨J3, ?_, fr.trans (fr.trans p2 q2) s2, by rw [s3, q3, p3], by rw [s4, q4, p4]⟩
  unfold M_Spans_worstOf wo
  rw [grd_t (bnd_nI (by omega) (by omega)), nI_clamp (by omega), h7.1, h7.2, e1, e2, e3, p1, Option.bind_some]
  simp only []
  rw [q1, Option.bind_some]
  simp only []
  rw [s1, Option.bind_some]
theorem worst_m (hD : WD D) (h89 : J 89 = D) (ho : okS D (eI D) (zI D)) {t : Nat} (ht : t < nS D) : ∃ K, M_Model_worstOf J (nI t) = some (wo D t, K) ∧ fr [88, 92, 98, 99] J K ∧ fk [4, 5, 6, 7, 8, 9] J K := by
  have n8 := hD.1.2
  obtain ⟨a, b, a1, b1, e1, e2, e3⟩ := ft_nI ho ht
  have r1 : 0 ≤ (nI a).toInt ∧ (nI a).toInt ≤ 9999 := by rw [nI_toInt (by omega)]; omega
  have r2 : 0 ≤ (nI ((a + b) / 2)).toInt ∧ (nI ((a + b) / 2)).toInt ≤ 9999 := by rw [nI_toInt (by omega)]; omega
  have r3 : 0 ≤ (nI b).toInt ∧ (nI b).toInt ≤ 9999 := by rw [nI_toInt (by omega)]; omega
  obtain ⟨K1, c1, c2, c3, c4⟩ := years_m (J := J) hD h89
  obtain ⟨w, K2, d1, d2, d3⟩ := pushes_m (J := K1) (E := eI D) (Z := zI D) hD (by rw [c2 89 (by decide)]; exact h89) (fun s _ => eI_rg s) (fun s _ => zI_rg s) (fun s hs => by rw [(c4 s hs).1]; rfl) (fun s hs => by rw [(c4 s hs).2]; rfl)
  have fd : fr [98, 99] K1 K2 := fun c hc => d2 c (fun e => hc (by simp [e])) (fun e => hc (by simp [e]))
  rcases d3 with ⟨-, -, o2⟩ | ⟨o1, -⟩
  · have g98 : K2 98 t = nI a := by rw [ofI (o2 t ht).1]; exact e1
    have g99 : K2 99 t = nI b := by rw [ofN (o2 t ht).2]; exact e2
    have k89 : K2 89 = D := by rw [fd 89 (by decide), c2 89 (by decide)]; exact h89
    obtain ⟨M1, p1, p2, p3⟩ := width_m (J := K2) hD k89 ht r1
    obtain ⟨M2, q1, q2, q3⟩ := width_m (J := M1) hD (by rw [p2 89 (by decide)]; exact k89) ht r2
    obtain ⟨M3, s1, s2, s3⟩ := width_m (J := M2) hD (by rw [q2 89 (by decide), p2 89 (by decide)]; exact k89) ht r3
    refine ⟨M3, ?_, fr.trans (fr.trans (fr.trans (fr.trans c2 (fr.sub (by decide) fd)) p2) q2) s2, fk.trans (fk.trans (fk.trans (fk.trans c3 (fk.of (by decide) fd)) p3) q3) s3⟩
    unfold M_Model_worstOf wo
    rw [c1, Option.bind_some, d1, Option.bind_some, grd_t (bnd_nI (by omega) (by omega)), nI_clamp (by omega)]
    simp only []
    rw [g98, g99, e1, e2, e3, p1, Option.bind_some]
    simp only []
    rw [q1, Option.bind_some]
    simp only []
    rw [s1, Option.bind_some]
    simp only []
    rw [← mmax3]
    by_cases x1 : wv D t (nI a) ≤ wv D t (nI ((a + b) / 2))
    · rw [if_pos x1, if_pos x1]; split <;> rfl
    · rw [if_neg x1, if_neg x1]; split <;> rfl
  · exact absurd ho o1
noncomputable def nxb (D : Nat → Int32) : Nat → Nat × Int32
  | 0 => (0, wo D 0)
  | k + 1 => if (nxb D k).2 ≤ wo D (k + 1) then nxb D k else (k + 1, wo D (k + 1))
theorem nxb_s (k : Nat) : nxb D (k + 1) = if (nxb D k).2 ≤ wo D (k + 1) then nxb D k else (k + 1, wo D (k + 1)) := rfl
theorem fn12 (h : Rel B L xs C I) : ∀ f i (J : HI), i ≤ nS (I 89) → nS (I 89) - i < f → (∀ c, c ∉ SCR → J c = I c) → (∀ s, s < i → J 77 s = J 73 s ∧ J 78 s = J 74 s) → ∃ K, L_Spans_findNext_12 f (nI i) J = some K ∧ (∀ c, c ≠ 77 → c ≠ 78 → K c = J c) ∧ (∀ s, s < nS (I 89) → K 77 s = J 73 s ∧ K 78 s = J 74 s) := by
  have n8 := h.n8
  intro f
  induction f with
  | zero => intro i J _ h; omega
  | succ f ih =>
    intro i J hi hf hJ hR
    rw [L_Spans_findNext_12, hJ 1 (by decide), st_nI h]
    by_cases e : nS (I 89) ≤ i
    · rw [if_pos (nI_le e (by omega))]
      exact ⟨J, rfl, fun _ _ _ => rfl, fun s hs => hR s (by omega)⟩
    · rw [if_neg (nI_ge (by omega) (by omega)), grd_t (bnd_nI (by omega) (by omega)), nI_clamp (by omega), nI_1]
      simp only [lt_def]
      rw [xu_qn (show (74 : Nat) ≠ 77 by decide)]
      obtain ⟨K, k1, k2, k3⟩ := ih (i + 1) (xu (xu J 77 i (J 73 i)) 78 i (J 74 i)) (by omega) (by omega) (fun c hc => by rw [xu_ne (by rintro rfl; exact hc (by decide)), xu_ne (by rintro rfl; exact hc (by decide))]; exact hJ c hc) (fun s hs => by
        rw [xu_qn (show (77 : Nat) ≠ 78 by decide), xu_qn (show (73 : Nat) ≠ 78 by decide), xu_qn (show (73 : Nat) ≠ 77 by decide), xu_qn (show (74 : Nat) ≠ 78 by decide), xu_qn (show (74 : Nat) ≠ 77 by decide)]
        by_cases es : s = i
        · subst es; rw [xu_rr, xu_rr]; exact ⟨rfl, rfl⟩
        · rw [xu_rn es, xu_rn es, xu_qn (by decide)]; exact hR s (by omega))
      refine ⟨K, k1, fun c c1 c2 => by rw [k2 c c1 c2, xu_ne c2, xu_ne c1], fun s hs => ?_⟩
      have := k3 s hs
      rw [xu_qn (show (73 : Nat) ≠ 78 by decide), xu_qn (show (73 : Nat) ≠ 77 by decide), xu_qn (show (74 : Nat) ≠ 78 by decide), xu_qn (show (74 : Nat) ≠ 77 by decide)] at this
      exact this
theorem fn67 (h : Rel B L xs C I) (ho : okS (I 89) (eI (I 89)) (zI (I 89))) : ∀ f i (J : HI), i + 1 ≤ nS (I 89) → nS (I 89) - (i + 1) < f → (∀ c, c ∉ SCR → J c = I c) → (∀ s, s < nS (I 89) → J 75 s = eY (I 89) s ∧ J 76 s = lY (I 89) s) → (∀ s, s < nS (I 89) → J 77 s = frm (I 89) s ∧ J 78 s = til (I 89) s) → J 72 2 = nI (nxb (I 89) i).1 ∧ J 72 3 = (nxb (I 89) i).2 → ∃ K, L_Spans_findNext_67 f (nI (i + 1)) J = some K ∧ fr [72, 73, 74, 75, 76] J K ∧ K 72 2 = nI (nxb (I 89) (nS (I 89) - 1)).1 ∧ K 72 3 = (nxb (I 89) (nS (I 89) - 1)).2 := by
  have n8 := h.n8
  intro f
  induction f with
  | zero => intro i J _ h; omega
  | succ f ih =>
    intro i J hi hf hJ hR h7 h72
    rw [L_Spans_findNext_67, hJ 1 (by decide), st_nI h]
    by_cases e : nS (I 89) ≤ i + 1
    · rw [if_pos (nI_le e (by omega))]
      rw [show nS (I 89) - 1 = i by omega]
      exact ⟨J, rfl, fr.refl, h72.1, h72.2⟩
    · obtain ⟨M, m1, m2, m3, m4⟩ := worst_c h ho (t := i + 1) (J := J) (by omega) hJ hR (h7 (i + 1) (by omega))
      rw [if_neg (nI_ge (by omega) (by omega)), m1, Option.bind_some, nI_1]
      simp only [lt_def]
      have e72 : M 72 3 = (nxb (I 89) i).2 := by rw [m2 72 (by decide)]; exact h72.2
      have hM : ∀ c, c ∉ SCR → M c = I c := fun c hc => by rw [m2 c (n_scr (by decide) hc)]; exact hJ c hc
      have hs := nxb_s (D := I 89) i
      by_cases c : M 72 3 ≤ wo (I 89) (i + 1)
      · rw [if_pos c]
        rw [e72] at c
        rw [if_pos c] at hs
        obtain ⟨K, k1, k2, k3, k4⟩ := ih (i + 1) M (by omega) (by omega) hM (fun s hs => by rw [m3, m4]; exact hR s hs) (fun s hs => by rw [m2 77 (by decide), m2 78 (by decide)]; exact h7 s hs) (by rw [hs, m2 72 (by decide)]; exact h72)
        exact ⟨K, k1, fr.trans (fr.sub (by decide) m2) k2, k3, k4⟩
      · rw [if_neg c]
        rw [e72] at c
        rw [if_neg c] at hs
        obtain ⟨K, k1, k2, k3, k4⟩ := ih (i + 1) (xu (xu M 72 2 (nI (i + 1))) 72 3 (wo (I 89) (i + 1))) (by omega) (by omega) (fun c hc => by rw [xu_ne (by rintro rfl; exact hc (by decide)), xu_ne (by rintro rfl; exact hc (by decide))]; exact hM c hc) (fun s hs => by rw [xu_ne (by decide), xu_ne (by decide), xu_ne (by decide), xu_ne (by decide), m3, m4]; exact hR s hs) (fun s hs => by rw [xu_ne (by decide), xu_ne (by decide), xu_ne (by decide), xu_ne (by decide), m2 77 (by decide), m2 78 (by decide)]; exact h7 s hs) (by rw [hs, xu_rn (by decide), xu_rr, xu_rr]; exact ⟨rfl, rfl⟩)
        exact ⟨K, k1, fr.trans (fr.wr (by decide) (fr.wr (by decide) (fr.sub (by decide) m2))) k2, k3, k4⟩
theorem mn49 (hD : WD D) (ho : okS D (eI D) (zI D)) {x1 : Int32} : ∀ f i (J : HI), i + 1 ≤ nS D → nS D - (i + 1) < f → J 89 = D → ∃ K, L_Model_next_49 x1 f (nI (nxb D i).1) (nxb D i).2 (nI (i + 1)) J = some (nI (nxb D (nS D - 1)).1, (nxb D (nS D - 1)).2, K) ∧ fr [88, 92, 98, 99] J K ∧ fk [4, 5, 6, 7, 8, 9] J K := by
  have n8 := hD.1.2
  have hlt : ∀ i, (nxb D i).1 ≤ i := by
    intro i
    induction i with
    | zero => exact Nat.le_refl _
    | succ i ih => rw [nxb_s]; split
                   · omega
                   · exact Nat.le_refl _
  intro f
  induction f with
  | zero => intro i J _ h; omega
  | succ f ih =>
    intro i J hi hf h89
    rw [L_Model_next_49, h89, hD.1.1]
    by_cases e : nS D ≤ i + 1
    · rw [if_pos (nI_le e (by omega)), show nS D - 1 = i by omega]
      exact ⟨J, rfl, fr.refl, fk.refl⟩
    · obtain ⟨M, m1, m2, m3⟩ := worst_m hD h89 ho (t := i + 1) (by omega)
      have hs := nxb_s (D := D) i
      have := hlt i
      rw [if_neg (nI_ge (by omega) (by omega)), m1, Option.bind_some, if_neg (nI_pos (by omega)), nI_1]
      simp only []
      obtain ⟨K, k1, k2, k3⟩ := ih (i + 1) M (by omega) (by omega) (by rw [m2 89 (by decide)]; exact h89)
      rw [hs] at k1
      by_cases c : (nxb D i).2 ≤ wo D (i + 1)
      · rw [if_pos c] at k1
        rw [if_pos c]
        exact ⟨K, k1, fr.trans m2 k2, fk.trans m3 k3⟩
      · rw [if_neg c] at k1
        rw [if_neg c]
        exact ⟨K, k1, fr.trans m2 k2, fk.trans m3 k3⟩
theorem ok_next (h : Rel B L xs C I) (x : Int32) : OK1 B L xs C (M_H_next C I x) (fun J => M_Model_next J x) := by
  have n8 := h.n8
  unfold M_H_next M_Model_next
  simp only [bsome, in_nat x (a := 0) (b := 1) (by decide) (by decide), within_eq]
  by_cases hx : ((0 : Nat) : Int) ≤ x.toInt ∧ x.toInt ≤ ((1 : Nat) : Int)
  · have hx' : 0 ≤ x.toInt ∧ x.toInt ≤ (1 : Int32).toInt := hx
    simp only [if_pos hx, if_pos hx', if_neg one0]
    obtain ⟨J1, a1, a2, a3⟩ := load_c h
    have hJ1 : ∀ c, c ∉ SCR → J1 c = I c := fun c hc => a2 c (n_scr (by decide) hc)
    have hR1 : Rel B L xs C J1 := h.fr a2 (by decide) (by rw [a2 88 (by decide)]) (by rw [a2 88 (by decide)])
    rw [a1, Option.bind_some, hJ1 1 (by decide), st_nI h]
    by_cases e0 : nS (I 89) = 0
    · obtain ⟨K, c1, c2, c3, c4⟩ := years_m (J := xu J1 87 2 (J1 87 2 + 1)) h.2.1 (by rw [xu_ne (by decide)]; exact hJ1 89 (by decide))
      refine err_ok 2 (by decide) (by decide) hR1 (W := [88, 92, 98, 99]) ?_ ⟨K, c2, by decide, by rw [c3 2 (by decide), xu_qn (by decide)], by rw [c3 21 (by decide), xu_qn (by decide)], ?_⟩
      · rw [if_pos (by rw [e0]; rfl)]; rfl
      · show Option.bind (M_Model_findYears _) _ = _
        rw [c1, Option.bind_some, if_pos (by rw [c2 89 (by decide), xu_ne (by decide), hJ1 89 (by decide), mS_nI h, e0]; rfl)]; rfl
    · have e0' : ¬ nI (nS (I 89)) = 0 := fun e => e0 ((nI0_iff (by omega)).mp e)
      rw [if_neg e0']
      obtain ⟨v, J2, b1, b2, b3⟩ := settle_c h (E := eI (I 89)) (Z := zI (I 89)) (J := J1) (fun s _ => eI_rg s) (fun s _ => zI_rg s) hJ1 (fun s hs => by rw [(a3 s hs).1]; rfl) (fun s hs => by rw [(a3 s hs).2]; rfl)
      have fJ : fr [19, 24, 73, 74, 75, 76] I J2 := fr.trans (fr.sub (by decide) a2) (fr.sub (by decide) b2)
      have hJ2 : ∀ c, c ∉ SCR → J2 c = I c := fun c hc => fJ c (n_scr (by decide) hc)
      have mm : ∀ J : HI, J 89 = I 89 → ∃ w K1 K, M_Model_findYears J = some K1 ∧ K1 89 = I 89 ∧ M_Model_pushes K1 = some (w, K) ∧ fr [88, 92, 98, 99] J K ∧ fk [4, 5, 6, 7, 8, 9] J K ∧ ((okS (I 89) (eI (I 89)) (zI (I 89)) ∧ w = 1) ∨ (¬ okS (I 89) (eI (I 89)) (zI (I 89)) ∧ w = 0)) := by
        intro J hJ
        obtain ⟨K1, c1, c2, c3, c4⟩ := years_m (J := J) h.2.1 hJ
        obtain ⟨w, K, d1, d2, d3⟩ := pushes_m (J := K1) (E := eI (I 89)) (Z := zI (I 89)) h.2.1 (by rw [c2 89 (by decide)]; exact hJ) (fun s _ => eI_rg s) (fun s _ => zI_rg s) (fun s hs => by rw [(c4 s hs).1]; rfl) (fun s hs => by rw [(c4 s hs).2]; rfl)
        have fd : fr [98, 99] K1 K := fun c hc => d2 c (fun e => hc (by simp [e])) (fun e => hc (by simp [e]))
        refine ⟨w, K1, K, c1, by rw [c2 89 (by decide)]; exact hJ, d1, fr.trans c2 (fr.sub (by decide) fd), fk.trans c3 (fk.of (by decide) fd), ?_⟩
        rcases d3 with ⟨p1, p2, -⟩ | ⟨p1, p2⟩
        · exact Or.inl ⟨p1, p2⟩
        · exact Or.inr ⟨p1, p2⟩
      unfold M_Spans_findNext
      rw [b1, Option.bind_some]
      rcases b3 with ⟨o1, rfl, o2⟩ | ⟨o1, rfl⟩
      · simp only [lt_def]
        rw [if_neg one0]
        obtain ⟨J3, p1, p2, p3⟩ := fn12 h 1000 0 J2 (by omega) (by omega) hJ2 (fun s hs => by omega)
        have hJ3 : ∀ c, c ∉ SCR → xu J3 72 2 0 c = I c := fun c hc => by rw [xu_ne (by rintro rfl; exact hc (by decide)), p2 c (by rintro rfl; exact hc (by decide)) (by rintro rfl; exact hc (by decide))]; exact hJ2 c hc
        have r3 : ∀ s, s < nS (I 89) → xu J3 72 2 0 75 s = eY (I 89) s ∧ xu J3 72 2 0 76 s = lY (I 89) s := fun s hs => by rw [xu_ne (by decide), xu_ne (by decide), p2 75 (by decide) (by decide), p2 76 (by decide) (by decide), b2 75 (by decide), b2 76 (by decide)]; exact a3 s hs
        have r7 : ∀ s, s < nS (I 89) → xu J3 72 2 0 77 s = frm (I 89) s ∧ xu J3 72 2 0 78 s = til (I 89) s := fun s hs => by rw [xu_ne (by decide), xu_ne (by decide), (p3 s hs).1, (p3 s hs).2]; exact ⟨ofI (o2 s hs).1, ofN (o2 s hs).2⟩
        obtain ⟨J4, q1, q2, q3, q4⟩ := worst_c h o1 (t := 0) (J := xu J3 72 2 0) (by omega) hJ3 r3 (r7 0 (by omega))
        obtain ⟨J5, t1, t2, t3, t4⟩ := fn67 h o1 1000 0 (xu J4 72 3 (wo (I 89) 0)) (by omega) (by omega) (fun c hc => by rw [xu_ne (by rintro rfl; exact hc (by decide)), q2 c (n_scr (by decide) hc)]; exact hJ3 c hc) (fun s hs => by rw [xu_ne (by decide), xu_ne (by decide), q3, q4]; exact r3 s hs) (fun s hs => by rw [xu_ne (by decide), xu_ne (by decide), q2 77 (by decide), q2 78 (by decide)]; exact r7 s hs) (by rw [xu_rn (by decide), xu_rr, q2 72 (by decide), xu_rr]; exact ⟨rfl, rfl⟩)
        have fJ5 : fr [19, 24, 72, 73, 74, 75, 76, 77, 78] I J5 := by
          have f3 : fr [77, 78] J2 J3 := fun c hc => p2 c (fun e => hc (by simp [e])) (fun e => hc (by simp [e]))
          exact fr.trans (fr.trans (fr.trans (fr.sub (by decide) fJ) (fr.sub (by decide) f3)) (fr.wr (by decide) fr.refl)) (fr.trans (fr.wr (by decide) (fr.sub (by decide) q2)) (fr.sub (by decide) t2))
        obtain ⟨w, K1, K2, c1, c89, d1, fK, gK, d3⟩ := mm J5 (fJ5 89 (by decide))
        rcases d3 with ⟨-, rfl⟩ | ⟨p1', -⟩
        · have k89 : K2 89 = I 89 := by rw [fK 89 (by decide)]; exact fJ5 89 (by decide)
          obtain ⟨M, m1, m2, m3⟩ := worst_m (J := K2) h.2.1 k89 o1 (t := 0) (by omega)
          obtain ⟨K, k1, k2, k3⟩ := mn49 (x1 := x) h.2.1 o1 999 0 M (by omega) (by omega) (by rw [m2 89 (by decide)]; exact k89)
          have hm : M_Model_next J5 x = (if x = 0 then some (nI (nxb (I 89) (nS (I 89) - 1)).1, K) else some ((nxb (I 89) (nS (I 89) - 1)).2, K)) := by
            unfold M_Model_next
            simp only [bsome, in_nat x (a := 0) (b := 1) (by decide) (by decide), if_pos hx, if_neg one0]
            rw [c1, Option.bind_some, c89, mS_nI h, if_neg e0', d1, Option.bind_some, if_neg one0]
            have kx : L_Model_next_49 x 1000 (-1) 0 0 K2 = some (nI (nxb (I 89) (nS (I 89) - 1)).1, (nxb (I 89) (nS (I 89) - 1)).2, K) := by
              rw [L_Model_next_49, k89, mS_nI h, if_neg (show ¬ nI (nS (I 89)) ≤ 0 from nI_nle (by omega) (by omega)), show M_Model_worstOf K2 0 = some (wo (I 89) 0, M) from m1, Option.bind_some, if_pos (show (-1 : Int32) < 0 by decide)]
              exact k1
            rw [show L_Model_next_49 x 1000 (-1) 0 0 (1, K2).snd = _ from kx, Option.bind_some]
          have hm2 : (fun J => Option.bind (M_Model_findYears J) fun p3 => if p3 89 0 = 0 then M_Model_finds p3 2 else Option.bind (M_Model_pushes p3) fun p6 => if p6.1 = 0 then M_Model_finds p6.2 2 else Option.bind (L_Model_next_49 x 1000 (-1) 0 0 p6.2) fun p9 => if x = 0 then some (p9.1, p9.2.2) else some (p9.2.1, p9.2.2)) J5 = M_Model_next J5 x := by
            unfold M_Model_next
            simp only [bsome, in_nat x (a := 0) (b := 1) (by decide) (by decide), if_pos hx, if_neg one0]
          have fKK : fr [88, 92, 98, 99] J5 K := fr.trans (fr.trans fK m2) k2
          have gKK : fk [4, 5, 6, 7, 8, 9] J5 K := fk.trans (fk.trans gK m3) k3
          rw [show L_Spans_findNext_12 1000 0 J2 = some J3 from p1, Option.bind_some, show M_Spans_worstOf (xu J3 72 2 0) 0 = some (wo (I 89) 0, J4) from q1, Option.bind_some]
          rw [show L_Spans_findNext_67 1000 1 (xu (wo (I 89) 0, J4).snd 72 3 (wo (I 89) 0, J4).fst) = some J5 from t1, Option.bind_some, Option.bind_some]
          simp only []
          rw [if_neg one0, t3, t4]
          by_cases ex : x = 0
          · rw [if_pos ex] at hm
            exact ok_val h (v := nI (nxb (I 89) (nS (I 89) - 1)).1) (J := J5) (K := K) (by rw [if_pos ex]) fJ5 (by decide) (by decide) (hm2.trans hm) fKK (by decide) (gKK 2 (by decide)) (gKK 21 (by decide))
          · rw [if_neg ex] at hm
            exact ok_val h (v := (nxb (I 89) (nS (I 89) - 1)).2) (J := J5) (K := K) (by rw [if_neg ex]) fJ5 (by decide) (by decide) (hm2.trans hm) fKK (by decide) (gKK 2 (by decide)) (gKK 21 (by decide))
        · exact absurd o1 p1'
      · have hR2 : Rel B L xs C J2 := h.fr fJ (by decide) (by rw [fJ 88 (by decide)]) (by rw [fJ 88 (by decide)])
        obtain ⟨w, K1, K, c1, c89, d1, fK, gK, d3⟩ := mm (xu J2 87 2 (J2 87 2 + 1)) (by rw [xu_ne (by decide)]; exact fJ 89 (by decide))
        rcases d3 with ⟨p1, -⟩ | ⟨-, rfl⟩
        · exact absurd p1 o1
        · refine err_ok 2 (by decide) (by decide) hR2 (W := [88, 92, 98, 99]) ?_ ⟨K, fK, by decide, by rw [gK 2 (by decide), xu_qn (by decide)], by rw [gK 21 (by decide), xu_qn (by decide)], ?_⟩
          · simp only []
            rw [if_pos trivial, Option.bind_some]
            simp only []
            rw [if_pos trivial]; rfl
          · show Option.bind (M_Model_findYears _) _ = _
            rw [c1, Option.bind_some, c89, mS_nI h, if_neg e0', d1, Option.bind_some, if_pos rfl]; rfl
  · have hx' : ¬ (0 ≤ x.toInt ∧ x.toInt ≤ (1 : Int32).toInt) := hx
    simp only [if_neg hx, if_neg hx', if_pos rfl]
    exact err_ok0 1 (by decide) (by decide) h rfl rfl
end SN
