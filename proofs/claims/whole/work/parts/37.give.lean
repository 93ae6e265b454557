/-! what a use gives -/
def tl (D : Nat → Int32) (u : Nat) : Nat := (D (97 + u)).toNatClampNeg
def bt (D : Nat → Int32) (u j : Nat) : Int32 := if j < 50 then D (119 + 50 * u + j) else 0
/-- a use's text in the reference's row -/
def WT (D : Nat → Int32) (u : Nat) : Prop := D (97 + u) = nI (tl D u) ∧ tl D u ≤ 50 ∧ (∀ j, j < tl D u → rg (bt D u j) 255) ∧ (tl D u ≠ 0 → ∃ st, pT (bt D u) (tl D u) u = .inr (st, tl D u))
/-- the class's text at cell t holds it -/
def rT (I : HI) (t : Nat) (D : Nat → Int32) (u : Nat) : Prop := (tl D u = 0 → I t 2 = 0) ∧ (tl D u ≠ 0 → ∃ st, pT (bt D u) (tl D u) u = .inr (st, tl D u) ∧ I t 2 = nI st.length ∧ st.length ≤ 50 ∧ 1 ≤ st.length ∧ ∀ j, j < st.length → I (t + 1) j = (st.getD j (0, 0)).1 ∧ I (t + 2) j = (st.getD j (0, 0)).2)
def giv (D : Nat → Int32) (u : Nat) (a b c d : Int32) : Int32 :=
  let v := if tl D u = 0 then (if u = 0 then 0 else a) else (match pT (bt D u) (tl D u) u with
    | .inr (st, _) => (runS a b c d st []).headD 0
    | .inl _ => 0)
  if u = 0 then M_Model_held v (-999) 999 else M_Model_held v 0 999
theorem ev_pT {b : Nat → Int32} {len u : Nat} {st : List TStp} (h50 : len ≤ 50) (hu : u < 2) (h : pT b len u = .inr (st, len)) (na nb nc nd : Int32) : ∃ v, Ev na nb nc nd st v := by
  have := (worked_m (I := fun r k => if r = 92 then (if k = 0 then na else if k = 1 then nb else if k = 2 then nc else nd) else b k) (b := b) (bs := 0) (u := u) h50 (by omega) hu (fun j hj => by simp)).2 st len h
  obtain ⟨v, J, -, h2⟩ := this
  rw [if_pos rfl] at h2
  exact ⟨v, h2.1⟩
theorem held_eq {v lo hi : Int32} (h : lo ≤ hi) : M_Wall_held v lo hi = M_Model_held v lo hi := by
  unfold M_Wall_held M_Model_held mmax mmin
  simp only [i_lt, i_le] at h ⊢
  by_cases h1 : v.toInt < hi.toInt
  · rw [if_pos h1]
    by_cases h2 : lo.toInt < v.toInt
    · rw [if_pos h2, if_pos (by omega), if_pos (by omega)]
    · rw [if_neg h2]
      by_cases h3 : lo.toInt ≤ v.toInt
      · rw [if_pos h3, if_pos (by omega)]
        exact i_eq.mpr (by omega)
      · rw [if_neg h3]
  · rw [if_neg h1]
    by_cases h2 : lo.toInt < hi.toInt
    · rw [if_pos h2, if_pos (by omega)]
      by_cases h4 : v.toInt ≤ hi.toInt
      · rw [if_pos h4]; exact i_eq.mpr (by omega)
      · rw [if_neg h4]
    · rw [if_neg h2, if_pos (by omega)]
      by_cases h4 : v.toInt ≤ hi.toInt
      · rw [if_pos h4]; exact i_eq.mpr (by omega)
      · rw [if_neg h4]; exact i_eq.mpr (by omega)
section GV
variable {I : HI} {D : Nat → Int32} {a b c d : Int32}
theorem giv_ev {u : Nat} {st : List TStp} {v : Int32} (h0 : tl D u ≠ 0) (h : pT (bt D u) (tl D u) u = .inr (st, tl D u)) (hv : Ev a b c d st v) : giv D u a b c d = if u = 0 then M_Model_held v (-999) 999 else M_Model_held v 0 999 := by
  unfold giv
  simp only [if_neg h0, h, hv [], List.headD_cons]
theorem givenBy_c {u : Nat} (hu : u < 2) (hw : WT D u) (h0 : u = 0 → rT I 16 D 0) (h1 : u = 1 → rT I 21 D 1) : ∃ J, M_Wall_givenBy I (nI u) a b c d = some (giv D u a b c d, J) ∧ fr [19, 24] I J := by
  unfold M_Wall_givenBy
  rcases (show u = 0 ∨ u = 1 by omega) with rfl | rfl
  · rw [if_pos (by rfl)]
    obtain ⟨e, n⟩ := h0 rfl
    unfold M_Text_isEmpty
    by_cases hz : tl D 0 = 0
    · rw [if_pos (e hz), if_neg one0]
      refine ⟨I, ?_, fr.refl⟩
      unfold giv
      simp only [if_pos hz, if_pos rfl]
      rfl
    · obtain ⟨st, s1, s2, s3, s4, s5⟩ := n hz
      have hne : ¬ I 16 2 = 0 := by rw [s2]; exact nI_ne0 (by omega) (by omega)
      rw [if_neg hne, if_pos rfl]
      obtain ⟨v, hv⟩ := ev_pT hw.2.1 (by decide) s1 a b c d
      obtain ⟨J, j1, j2⟩ := workOut0 s3 s2 s5 hv
      rw [j1, Option.bind_some]
      refine ⟨J, ?_, fr.sub (by decide) j2⟩
      rw [giv_ev hz s1 hv, if_pos rfl, held_eq (by decide)]
  · rw [if_neg (by decide)]
    obtain ⟨e, n⟩ := h1 rfl
    unfold M_Text_isEmpty_2
    by_cases hz : tl D 1 = 0
    · rw [if_pos (e hz), if_neg one0]
      refine ⟨I, ?_, fr.refl⟩
      unfold giv
      simp only [if_pos hz, if_neg (show ¬ (1 : Nat) = 0 by decide)]
      rw [held_eq (by decide)]
    · obtain ⟨st, s1, s2, s3, s4, s5⟩ := n hz
      have hne : ¬ I 21 2 = 0 := by rw [s2]; exact nI_ne0 (by omega) (by omega)
      rw [if_neg hne, if_pos rfl]
      obtain ⟨v, hv⟩ := ev_pT hw.2.1 (by decide) s1 a b c d
      obtain ⟨J, j1, j2⟩ := workOut1 s3 s2 s5 hv
      rw [j1, Option.bind_some]
      refine ⟨J, ?_, fr.sub (by decide) j2⟩
      rw [giv_ev hz s1 hv, if_neg (by decide), held_eq (by decide)]
theorem gives_m {u : Nat} (hu : u < 2) (hw : WT (I 89) u) : ∃ J, M_Model_gives I (nI u) a b c d = some (giv (I 89) u a b c d, J) := by
  obtain ⟨w1, w2, w3, w4⟩ := hw
  have hix : ((97 : Int32) + nI u).toNatClampNeg = 97 + u := by
    rw [show (97 : Int32) = nI 97 from rfl, nI_add, nI_clamp (by omega)]
  have hbn : bnd ((97 : Int32) + nI u) 270 = true := by
    rw [show (97 : Int32) = nI 97 from rfl, nI_add]; exact bnd_nI (by omega) (by omega)
  have hbs : (119 : Int32) + (50 : Int32) * nI u = nI (119 + 50 * u) := by
    rw [show (50 : Int32) = nI 50 from rfl, show (119 : Int32) = nI 119 from rfl, pk_mul, nI_add]
  have main : tl (I 89) u ≠ 0 → ∃ (v : Int32) (J : HI) (st : List TStp), pT (bt (I 89) u) (tl (I 89) u) u = .inr (st, tl (I 89) u) ∧ M_Model_worked (xu (xu (xu (xu I 92 0 a) 92 1 b) 92 2 c) 92 3 d) (nI (119 + 50 * u)) (nI (tl (I 89) u)) (nI u) = some (v, J) ∧ Ev a b c d st v := by
    intro hz
    obtain ⟨st, hst⟩ := w4 hz
    have := (worked_m (I := xu (xu (xu (xu I 92 0 a) 92 1 b) 92 2 c) 92 3 d) (b := bt (I 89) u) (len := tl (I 89) u) (bs := 119 + 50 * u) (u := u) w2 (by omega) hu (fun j hj => by simp only [bt, if_pos (show j < 50 by omega)]; simp [xu_app])).2 st _ hst
    obtain ⟨v, J, k1, k2⟩ := this
    rw [if_pos rfl] at k2
    refine ⟨v, J, st, hst, k1, ?_⟩
    have := k2.1
    simpa [xu_app] using this
  have h89 : ∀ k, xu (xu (xu (xu I 92 0 a) 92 1 b) 92 2 c) 92 3 d 89 k = I 89 k := fun k => by simp [xu_app]
  unfold M_Model_gives
  simp only [lt_def, hix, hbs, h89, w1]
  have h97 : I 89 (97 + u) = nI (tl (I 89) u) := w1
  by_cases hz : tl (I 89) u = 0
  · rcases (show u = 0 ∨ u = 1 by omega) with rfl | rfl
    · have hle : nI (tl (I 89) 0) ≤ 0 := by rw [hz]; decide
      rw [if_pos (show nI 0 = 0 from rfl), grd_t hbn, if_pos hle]
      refine ⟨I, ?_⟩
      unfold giv
      simp only [if_pos hz, if_pos rfl]
      rfl
    · have hle : nI (tl (I 89) 1) ≤ 0 := by rw [hz]; decide
      rw [if_neg (show ¬ nI 1 = 0 by decide), grd_t hbn, if_pos hle]
      refine ⟨I, ?_⟩
      unfold giv
      simp only [if_pos hz, if_neg (show ¬ (1 : Nat) = 0 by decide)]
  · obtain ⟨v, J, st, s1, s2, s3⟩ := main hz
    rcases (show u = 0 ∨ u = 1 by omega) with rfl | rfl
    · have hle : ¬ nI (tl (I 89) 0) ≤ 0 := nI_nle (by omega) (by omega)
      rw [if_pos (show nI 0 = 0 from rfl), grd_t hbn, if_neg hle, s2, Option.bind_some]
      exact ⟨J, by rw [giv_ev hz s1 s3, if_pos rfl]⟩
    · have hle : ¬ nI (tl (I 89) 1) ≤ 0 := nI_nle (by omega) (by omega)
      rw [if_neg (show ¬ nI 1 = 0 by decide), grd_t hbn, if_neg hle, s2, Option.bind_some]
      exact ⟨J, by rw [giv_ev hz s1 s3, if_neg (by decide)]⟩
end GV
