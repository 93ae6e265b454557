section RY
variable {B L : Nat} {xs : Nat → Int32} {C : HC} {I J K : HI}
/-- only the looks change -/
theorem Rel.upL (h : Rel B L xs C I) (ec : ∀ c, c ≠ 1 → c ≠ 11 → c ≠ 12 → c ≠ 13 → c ≠ 89 → c ∉ SCR → K c = I c) (h2 : K 88 2 = I 88 2) (h21 : K 88 21 = I 88 21) (e : ∀ k, k ≠ 1 → (k < 61 ∨ 97 ≤ k) → K 89 k = I 89 k) (e1 : ∀ k, k ≠ 5 → K 1 k = I 1 k) (hZ : ZL K 1 (K 89)) : Rel B L xs C K := by
  obtain ⟨z1, z2, z3, z4, z5, z6⟩ := h.za
  refine h.wallz ?_ h2 h21 ⟨?_, hZ, ?_, ?_, ?_, ?_⟩
  · intro c c1 c2 c3 c4
    exact ec c (by rintro rfl; exact c3 (by decide)) (by rintro rfl; exact c3 (by decide)) (by rintro rfl; exact c3 (by decide)) (by rintro rfl; exact c3 (by decide)) c2 c1
  · exact z1.c (e _ (by decide) (by decide)) (fun k _ _ => e _ (by omega) (by omega)) (e1 _ (by decide)) (fun s hs => ec _ (h.stc (by decide) (by decide) hs) (h.stc (by decide) (by decide) hs) (h.stc (by decide) (by decide) hs) (h.stc (by decide) (by decide) hs) (h.stc (by decide) (by decide) hs) (st_scr (h.1.2.2.1 s hs).1))
  · exact z3.c (e _ (by decide) (by decide)) (fun k _ _ => e _ (by omega) (by omega)) (e1 _ (by decide)) (ec _ (by decide) (by decide) (by decide) (by decide) (by decide) (by decide))
  · exact z4.c (e _ (by decide) (by decide)) (fun k _ _ => e _ (by omega) (by omega)) (e1 _ (by decide)) (ec _ (by decide) (by decide) (by decide) (by decide) (by decide) (by decide))
  · refine z5.c (fun k _ _ => e _ (by omega) (by omega)) (fun k _ _ => e _ (by omega) (by omega)) (fun c hc => ?_)
    have : ∀ c, c ∈ [1 + 15, 1 + 15 + 1, 1 + 15 + 2, 1 + 20, 1 + 20 + 1, 1 + 20 + 2] → c ≠ 1 ∧ c ≠ 11 ∧ c ≠ 12 ∧ c ≠ 13 ∧ c ≠ 89 ∧ c ∉ SCR := by decide
    obtain ⟨a1, a2, a3, a4, a5, a6⟩ := this c hc
    exact ec c a1 a2 a3 a4 a5 a6
  · rw [e _ (by decide) (by decide), e1 _ (by decide)]; exact z6
/-- only the tape -/
theorem Rel.upT (h : Rel B L xs C I) (ec : ∀ c, c ≠ 1 → c ≠ 14 → c ≠ 89 → c ∉ SCR → K c = I c) (h2 : K 88 2 = I 88 2) (h21 : K 88 21 = I 88 21) (e : ∀ k, k ≠ 3 → (k < 219 ∨ 269 ≤ k) → K 89 k = I 89 k) (e1 : ∀ k, k ≠ 7 → K 1 k = I 1 k) (hZ : ZT K 1 (K 89)) : Rel B L xs C K := by
  obtain ⟨z1, z2, z3, z4, z5, z6⟩ := h.za
  have n0 := nS_c (e 0 (by decide) (by decide))
  refine h.wallz ?_ h2 h21 ⟨?_, ?_, hZ, ?_, ?_, ?_⟩
  · intro c c1 c2 c3 c4
    exact ec c (by rintro rfl; exact c3 (by decide)) (by rintro rfl; exact c3 (by decide)) c2 c1
  · exact z1.c (e _ (by decide) (by decide)) (fun k _ _ => e _ (by omega) (by omega)) (e1 _ (by decide)) (fun s hs => ec _ (h.stc (by decide) (by decide) hs) (h.stc (by decide) (by decide) hs) (h.stc (by decide) (by decide) hs) (st_scr (h.1.2.2.1 s hs).1))
  · exact z2.c (by omega) (e _ (by decide) (by decide)) (fun k _ _ => e _ (by omega) (by omega)) (e1 _ (by decide)) (ec _ (by decide) (by decide) (by decide) (by decide)) (ec _ (by decide) (by decide) (by decide) (by decide)) (ec _ (by decide) (by decide) (by decide) (by decide))
  · exact z4.c (e _ (by decide) (by decide)) (fun k _ _ => e _ (by omega) (by omega)) (e1 _ (by decide)) (ec _ (by decide) (by decide) (by decide) (by decide))
  · refine z5.c (fun k _ _ => e _ (by omega) (by omega)) (fun k _ _ => e _ (by omega) (by omega)) (fun c hc => ?_)
    have : ∀ c, c ∈ [1 + 15, 1 + 15 + 1, 1 + 15 + 2, 1 + 20, 1 + 20 + 1, 1 + 20 + 2] → c ≠ 1 ∧ c ≠ 14 ∧ c ≠ 89 ∧ c ∉ SCR := by decide
    obtain ⟨a1, a2, a3, a4⟩ := this c hc
    exact ec c a1 a2 a3 a4
  · rw [e _ (by decide) (by decide), e1 _ (by decide)]; exact z6
/-- only what waits -/
theorem Rel.upW (h : Rel B L xs C I) (ec : ∀ c, c ≠ 1 → c ≠ 31 → c ≠ 89 → c ∉ SCR → K c = I c) (h2 : K 88 2 = I 88 2) (h21 : K 88 21 = I 88 21) (e : ∀ k, k ≠ 4 → (k < 99 ∨ 119 ≤ k) → K 89 k = I 89 k) (e1 : ∀ k, k ≠ 11 → K 1 k = I 1 k) (hZ : ZW K 1 (K 89)) : Rel B L xs C K := by
  obtain ⟨z1, z2, z3, z4, z5, z6⟩ := h.za
  have n0 := nS_c (e 0 (by decide) (by decide))
  refine h.wallz ?_ h2 h21 ⟨?_, ?_, ?_, hZ, ?_, ?_⟩
  · intro c c1 c2 c3 c4
    exact ec c (by rintro rfl; exact c3 (by decide)) (by rintro rfl; exact c3 (by decide)) c2 c1
  · exact z1.c (e _ (by decide) (by decide)) (fun k _ _ => e _ (by omega) (by omega)) (e1 _ (by decide)) (fun s hs => ec _ (h.stc (by decide) (by decide) hs) (h.stc (by decide) (by decide) hs) (h.stc (by decide) (by decide) hs) (st_scr (h.1.2.2.1 s hs).1))
  · exact z2.c (by omega) (e _ (by decide) (by decide)) (fun k _ _ => e _ (by omega) (by omega)) (e1 _ (by decide)) (ec _ (by decide) (by decide) (by decide) (by decide)) (ec _ (by decide) (by decide) (by decide) (by decide)) (ec _ (by decide) (by decide) (by decide) (by decide))
  · exact z3.c (e _ (by decide) (by decide)) (fun k _ _ => e _ (by omega) (by omega)) (e1 _ (by decide)) (ec _ (by decide) (by decide) (by decide) (by decide))
  · refine z5.c (fun k _ _ => e _ (by omega) (by omega)) (fun k _ _ => e _ (by omega) (by omega)) (fun c hc => ?_)
    have : ∀ c, c ∈ [1 + 15, 1 + 15 + 1, 1 + 15 + 2, 1 + 20, 1 + 20 + 1, 1 + 20 + 2] → c ≠ 1 ∧ c ≠ 31 ∧ c ≠ 89 ∧ c ∉ SCR := by decide
    obtain ⟨a1, a2, a3, a4⟩ := this c hc
    exact ec c a1 a2 a3 a4
  · rw [e _ (by decide) (by decide), e1 _ (by decide)]; exact z6
/-- only the texts -/
theorem Rel.upX (h : Rel B L xs C I) (ec : ∀ c, c ≠ 16 → c ≠ 17 → c ≠ 18 → c ≠ 21 → c ≠ 22 → c ≠ 23 → c ≠ 89 → c ∉ SCR → K c = I c) (h2 : K 88 2 = I 88 2) (h21 : K 88 21 = I 88 21) (e : ∀ k, (k < 97 ∨ 99 ≤ k) → (k < 119 ∨ 219 ≤ k) → K 89 k = I 89 k) (hZ : ZX K 1 (K 89)) : Rel B L xs C K := by
  obtain ⟨z1, z2, z3, z4, z5, z6⟩ := h.za
  have n0 := nS_c (e 0 (by decide) (by decide))
  have e1 : K 1 = I 1 := ec 1 (by decide) (by decide) (by decide) (by decide) (by decide) (by decide) (by decide) (by decide)
  refine h.wallz ?_ h2 h21 ⟨?_, ?_, ?_, ?_, hZ, ?_⟩
  · intro c c1 c2 c3 c4
    exact ec c (by rintro rfl; exact c3 (by decide)) (by rintro rfl; exact c3 (by decide)) (by rintro rfl; exact c3 (by decide)) (by rintro rfl; exact c3 (by decide)) (by rintro rfl; exact c3 (by decide)) (by rintro rfl; exact c3 (by decide)) c2 c1
  · exact z1.c (e _ (by decide) (by decide)) (fun k _ _ => e _ (by omega) (by omega)) (by rw [e1]) (fun s hs => ec _ (h.stc (by decide) (by decide) hs) (h.stc (by decide) (by decide) hs) (h.stc (by decide) (by decide) hs) (h.stc (by decide) (by decide) hs) (h.stc (by decide) (by decide) hs) (h.stc (by decide) (by decide) hs) (h.stc (by decide) (by decide) hs) (st_scr (h.1.2.2.1 s hs).1))
  · exact z2.c (by omega) (e _ (by decide) (by decide)) (fun k _ _ => e _ (by omega) (by omega)) (by rw [e1]) (ec _ (by decide) (by decide) (by decide) (by decide) (by decide) (by decide) (by decide) (by decide)) (ec _ (by decide) (by decide) (by decide) (by decide) (by decide) (by decide) (by decide) (by decide)) (ec _ (by decide) (by decide) (by decide) (by decide) (by decide) (by decide) (by decide) (by decide))
  · exact z3.c (e _ (by decide) (by decide)) (fun k _ _ => e _ (by omega) (by omega)) (by rw [e1]) (ec _ (by decide) (by decide) (by decide) (by decide) (by decide) (by decide) (by decide) (by decide))
  · exact z4.c (e _ (by decide) (by decide)) (fun k _ _ => e _ (by omega) (by omega)) (by rw [e1]) (ec _ (by decide) (by decide) (by decide) (by decide) (by decide) (by decide) (by decide) (by decide))
  · rw [e _ (by decide) (by decide), e1]; exact z6
/-- nothing changes -/
theorem ok_same {v : Int32} {h : Option (Int32 × HI)} {m : HI → Option (Int32 × HI)} (hr : Rel B L xs C I) (h1 : h = some (v, I)) (h2 : m I = some (v, I)) : OK1 B L xs C h m := ⟨v, I, I, h1, h2, hr⟩
theorem bsome {x : Option (Int32 × HI)} : (Option.bind x fun p => some (p.1, p.2)) = x := by cases x <;> rfl
theorem lk_nI (h : Rel B L xs C I) : I 1 5 = nI (nL (I 89)) := by rw [h.2.2.1.1.2.1]; exact h.2.1.2.1.1
theorem st_nI (h : Rel B L xs C I) : I 1 1 = nI (nS (I 89)) := by rw [h.2.2.1.1.1]; exact h.2.1.1.1
theorem mS_nI (h : Rel B L xs C I) : I 89 0 = nI (nS (I 89)) := h.2.1.1.1
theorem mL_nI (h : Rel B L xs C I) : I 89 1 = nI (nL (I 89)) := h.2.1.2.1.1
theorem ok_forget (h : Rel B L xs C I) : OK1 B L xs C (M_H_forget I) (fun J => M_Model_forget J) := by
  have hl := lk_nI h
  have hm := mL_nI h
  have h12 : nL (I 89) ≤ 12 := h.2.1.2.1.2
  unfold M_H_forget M_Model_forget
  simp only [bsome, lt_def]
  by_cases h0 : nL (I 89) = 0
  · have c1 : I 1 5 = 0 := by rw [hl, h0]; rfl
    have c2 : xu I 87 3 (I 87 3 + 1) 89 1 = 0 := by rw [xu_qn (by decide), hm, h0]; rfl
    refine err_ok0 3 (by decide) (by decide) h (by rw [if_pos c1]; rfl) ?_
    show (if xu I 87 3 (I 87 3 + 1) 89 1 = 0 then _ else _) = _
    rw [if_pos c2]; rfl
  · obtain ⟨n, hn⟩ : ∃ n, nL (I 89) = n + 1 := ⟨nL (I 89) - 1, by omega⟩
    have c1 : ¬ I 1 5 = 0 := by rw [hl]; exact nI_ne0 (by omega) (by omega)
    have v1 : I 1 5 - 1 = nI n := by rw [hl, hn]; exact nI_pred n
    have v2 : I 89 1 - 1 = nI n := by rw [hm, hn]; exact nI_pred n
    refine ⟨nI n, xu I 1 5 (nI n), xu (xu I 1 5 (nI n)) 89 1 (nI n), by rw [if_neg c1, v1, xu_rr], ?_, ?_⟩
    · show (if xu I 1 5 (nI n) 89 1 = 0 then _ else _) = _
      rw [xu_qn (by decide), v2, if_neg (by rw [hm]; exact nI_ne0 (by omega) (by omega)), xu_rr]
    · obtain ⟨z1, z2, z3, z4, z5, z6⟩ := h.za
      have e : ∀ k, k ≠ 1 → xu (xu I 1 5 (nI n)) 89 1 (nI n) 89 k = I 89 k := fun k hk => by rw [xu_rn hk, xu_qn (by decide)]
      have e1 : ∀ k, k ≠ 5 → xu (xu I 1 5 (nI n)) 89 1 (nI n) 1 k = I 1 k := fun k hk => by rw [xu_qn (by decide), xu_rn hk]
      have ec : ∀ c, c ≠ 1 → c ≠ 89 → xu (xu I 1 5 (nI n)) 89 1 (nI n) c = I c := fun c h1 h2 => by rw [xu_ne h2, xu_ne h1]
      refine h.upL (fun c c1 _ _ _ c2 _ => ec c c1 c2) (by rw [ec _ (by decide) (by decide)]) (by rw [ec _ (by decide) (by decide)]) (fun k hk _ => e k hk) e1 ?_
      have en : nL (xu (xu I 1 5 (nI n)) 89 1 (nI n) 89) = n := nL_v xu_rr (by omega)
      refine ⟨⟨by rw [en, xu_rr], by omega⟩, ?_, by rw [xu_rr, xu_qn (by decide), xu_rr]⟩
      intro l hl
      rw [en] at hl
      have := z2.2.1 l (by omega)
      rw [ec (1 + 10) (by decide) (by decide), ec (1 + 11) (by decide) (by decide), ec (1 + 12) (by decide) (by decide), e _ (by omega), e _ (by omega), e _ (by omega)]
      exact ⟨this.1.c (by rw [nS_c (e 0 (by decide))]; omega) (fun k hk => e _ (by omega)), this.2⟩
theorem ok_tell (h : Rel B L xs C I) (x : Int32) : OK1 B L xs C (M_H_tell I x) (fun J => M_Model_tell J x) := by
  obtain ⟨z1, z2, z3, z4, z5, z6⟩ := h.za
  obtain ⟨⟨w1, w2⟩, w3, w4⟩ := z4
  have hw : I 1 11 = nI (nW (I 89)) := by rw [w4]; exact w1
  unfold M_H_tell M_Model_tell
  simp only [bsome, lt_def]
  generalize hn : nW (I 89) = n at *
  by_cases h0 : n = 20
  · have c1 : ¬ I 1 11 < 20 := by rw [hw]; exact n_nlt 20 20 (by omega) (by omega)
    have c2 : xu I 87 4 (I 87 4 + 1) 89 4 = 20 := by rw [xu_qn (by decide), w1, h0]; rfl
    refine err_ok0 4 (by decide) (by decide) h (by rw [if_neg c1]; rfl) ?_
    show (if xu I 87 4 (I 87 4 + 1) 89 4 = 20 then _ else _) = _
    rw [if_pos c2]; rfl
  · have c1 : I 1 11 < 20 := by rw [hw]; exact n_lt 20 20 (by omega)
    have c2 : ¬ I 89 4 = 20 := by rw [w1]; exact n_ne 20 20 h0 (by omega)
    have v1 : (99 : Int32) + nI n = nI (99 + n) := nI_add 99 n
    refine ⟨nI (n + 1), xu (xu I 31 n x) 1 11 (nI (n + 1)), xu (xu (xu (xu I 31 n x) 1 11 (nI (n + 1))) 89 (99 + n) x) 89 4 (nI (n + 1)), ?_, ?_, ?_⟩
    · rw [if_pos c1, hw, grd_t (bnd_nI (by omega) (by omega)), nI_clamp (by omega), xu_rr, xu_qn (by decide), hw, nI_1]
    · show (if xu (xu I 31 n x) 1 11 (nI (n + 1)) 89 4 = 20 then _ else _) = _
      have q : xu (xu I 31 n x) 1 11 (nI (n + 1)) 89 4 = nI n := by rw [xu_qn (by decide), xu_qn (by decide)]; exact w1
      rw [q, if_neg (by rw [← w1]; exact c2), v1, grd_t (bnd_nI (by omega) (by omega)), nI_clamp (by omega), xu_rr, xu_rn (by omega), q, nI_1]
    · have e : ∀ k, k ≠ 4 → k ≠ 99 + n → xu (xu (xu (xu I 31 n x) 1 11 (nI (n + 1))) 89 (99 + n) x) 89 4 (nI (n + 1)) 89 k = I 89 k := fun k h1 h2 => by rw [xu_rn h1, xu_rn h2, xu_qn (by decide), xu_qn (by decide)]
      refine h.upW ?_ ?_ ?_ (fun k h1 h2 => e k h1 (by omega)) ?_ ?_
      · intro c c1 c2 c3 c4
        rw [xu_ne c3, xu_ne c3, xu_ne c1, xu_ne c2]
      · simp [xu_app]
      · simp [xu_app]
      · intro k hk; simp [xu_app, hk]
      · have en : nW (xu (xu (xu (xu I 31 n x) 1 11 (nI (n + 1))) 89 (99 + n) x) 89 4 (nI (n + 1)) 89) = n + 1 := nW_v xu_rr (by omega)
        refine ⟨⟨by rw [en, xu_rr], by omega⟩, ?_, by rw [xu_rr, xu_qn (by decide), xu_qn (by decide), xu_rr]⟩
        rw [en]
        intro j hj
        by_cases ej : j = n
        · subst ej
          rw [xu_rn (by omega), xu_rr, xu_qn (by decide), xu_qn (by decide), xu_qn (by decide), xu_rr]
        · rw [e _ (by omega) (by omega), xu_qn (by decide), xu_qn (by decide), xu_qn (by decide), xu_rn (by omega)]
          exact w3 j (by omega)
end RY
