/-! the same for the slots of the Model's own cell -/
def fk (L : List Nat) (I J : HI) : Prop := ∀ k, k ∉ L → J 88 k = I 88 k
section FK
variable {L L' W : List Nat} {I J K : HI} {r k : Nat} {v : Int32}
theorem fk.refl : fk L I I := fun _ _ => rfl
theorem fk.trans (h1 : fk L I J) (h2 : fk L J K) : fk L I K := fun c hc => (h2 c hc).trans (h1 c hc)
theorem fk.sub (h : L'.all (fun x => L.contains x) = true) (h1 : fk L' I J) : fk L I J := fun c hc => h1 c (fun hm => hc (by
  have := List.all_eq_true.mp h c hm
  simpa using this))
theorem fk.wr (h : L.contains k = true) (h1 : fk L I J) : fk L I (xu J 88 k v) := by
  intro c hc
  have hne : c ≠ k := by rintro rfl; exact hc (fr_mem h)
  rw [xu_app, if_pos rfl, if_neg hne]
  exact h1 c hc
theorem fk.wr0 (h : r ≠ 88) (h1 : fk L I J) : fk L I (xu J r k v) := by
  intro c hc
  rw [xu_app, if_neg (Ne.symm h)]
  exact h1 c hc
theorem fk.of (h : W.contains 88 = false) (h1 : fr W I J) : fk L I J := fun c _ => by
  rw [h1 88 (by simpa using h)]
end FK
theorem v_Model_wrong {I : HI} {r : Int32 × HI} : M_Model_wrong I = r → fk [7] I r.2 := by
  unfold M_Model_wrong
  have f0 : fk [7] I I := fk.refl
  refine kx_if (fun _ => ?_) (fun _ => ?_)
  · refine kx_lti (fun J2 eJ2 => ?_)
    have f1 : fk [7] I J2 := eJ2 ▸ fk.wr (by decide) f0
    rintro rfl
    exact f1
  · refine kx_lti (fun J3 eJ3 => ?_)
    have f2 : fk [7] I J3 := eJ3 ▸ fk.wr (by decide) f0
    rintro rfl
    exact f2
theorem v_L_Model_product_5 {u : HI → Option (Int32 × HI)} (hvu : ∀ {I : HI} {r : Int32 × HI}, u  I = some r → fk [5, 7, 8] I r.2) : ∀ {f : Nat} {x1 : Int32} {I : HI} {r : Int32 × HI}, L_Model_product_5 u f x1 I = some r → fk [5, 7, 8] I r.2 := by
  intro f
  induction f with
  | zero => intro x1 I r h; rw [L_Model_product_5] at h; cases h
  | succ f ih =>
    intro x1 I r
    rw [L_Model_product_5]
    have f0 : fk [5, 7, 8] I I := fk.refl
    refine kx_bind (fun p1 hp1 => ?_)
    refine kx_if (fun _ => ?_) (fun _ => ?_)
    · refine kx_bind (fun p3 hp3 => ?_)
      refine kx_lti (fun J4 eJ4 => ?_)
      have f3 : fk [5, 7, 8] I J4 := eJ4 ▸ fk.wr (by decide) f0
      refine kx_bind (fun p5 hp5 => ?_)
      have f4 : fk [5, 7, 8] I p5.2 := fk.trans f3 (fk.sub (by decide) (hvu hp5))
      refine kx_if (fun _ => ?_) (fun _ => ?_)
      · exact fun h => fk.trans f4 (ih h)
      · refine kx_if (fun _ => ?_) (fun _ => ?_)
        · exact fun h => fk.trans f4 (ih h)
        · refine kx_if (fun _ => ?_) (fun _ => ?_)
          · refine kx_grd (fun _ => ?_)
            exact fun h => fk.trans f4 (ih h)
          · refine kx_grd (fun _ => ?_)
            exact fun h => fk.trans f4 (ih h)
    · refine kx_bind (fun p11 hp11 => ?_)
      refine kx_if (fun _ => ?_) (fun _ => ?_)
      · refine kx_bind (fun p13 hp13 => ?_)
        refine kx_lti (fun J14 eJ14 => ?_)
        have f7 : fk [5, 7, 8] I J14 := eJ14 ▸ fk.wr (by decide) f0
        refine kx_bind (fun p15 hp15 => ?_)
        have f8 : fk [5, 7, 8] I p15.2 := fk.trans f7 (fk.sub (by decide) (hvu hp15))
        refine kx_if (fun _ => ?_) (fun _ => ?_)
        · exact fun h => fk.trans f8 (ih h)
        · refine kx_if (fun _ => ?_) (fun _ => ?_)
          · exact fun h => fk.trans f8 (ih h)
          · refine kx_if (fun _ => ?_) (fun _ => ?_)
            · refine kx_grd (fun _ => ?_)
              exact fun h => fk.trans f8 (ih h)
            · refine kx_grd (fun _ => ?_)
              exact fun h => fk.trans f8 (ih h)
      · refine kx_bind (fun p21 hp21 => ?_)
        refine kx_if (fun _ => ?_) (fun _ => ?_)
        · refine kx_bind (fun p23 hp23 => ?_)
          refine kx_lti (fun J24 eJ24 => ?_)
          have f11 : fk [5, 7, 8] I J24 := eJ24 ▸ fk.wr (by decide) f0
          refine kx_bind (fun p25 hp25 => ?_)
          have f12 : fk [5, 7, 8] I p25.2 := fk.trans f11 (fk.sub (by decide) (hvu hp25))
          refine kx_if (fun _ => ?_) (fun _ => ?_)
          · exact fun h => fk.trans f12 (ih h)
          · refine kx_if (fun _ => ?_) (fun _ => ?_)
            · exact fun h => fk.trans f12 (ih h)
            · refine kx_if (fun _ => ?_) (fun _ => ?_)
              · refine kx_grd (fun _ => ?_)
                exact fun h => fk.trans f12 (ih h)
              · refine kx_grd (fun _ => ?_)
                exact fun h => fk.trans f12 (ih h)
        · intro h; have h := Option.some.inj h; subst h
          exact f0
theorem v_Model_product {u : HI → Option (Int32 × HI)} {I : HI} (hvu : ∀ {I : HI} {r : Int32 × HI}, u  I = some r → fk [5, 7, 8] I r.2) {r : Int32 × HI} : M_Model_product u I = some r → fk [5, 7, 8] I r.2 := by
  unfold M_Model_product
  have f0 : fk [5, 7, 8] I I := fk.refl
  refine kx_bind (fun p1 hp1 => ?_)
  have f1 : fk [5, 7, 8] I p1.2 := fk.trans f0 (fk.sub (by decide) (hvu hp1))
  refine kx_bind (fun p2 hp2 => ?_)
  have f2 : fk [5, 7, 8] I p2.2 := fk.trans f1 (fk.sub (by decide) (v_L_Model_product_5 hvu hp2))
  intro h; have h := Option.some.inj h; subst h
  exact f2
theorem v_L_Model_sum_5 {u : HI → Option (Int32 × HI)} (hvu : ∀ {I : HI} {r : Int32 × HI}, u  I = some r → fk [5, 7, 8] I r.2) : ∀ {f : Nat} {x1 : Int32} {I : HI} {r : Int32 × HI}, L_Model_sum_5 u f x1 I = some r → fk [5, 7, 8] I r.2 := by
  intro f
  induction f with
  | zero => intro x1 I r h; rw [L_Model_sum_5] at h; cases h
  | succ f ih =>
    intro x1 I r
    rw [L_Model_sum_5]
    have f0 : fk [5, 7, 8] I I := fk.refl
    refine kx_bind (fun p1 hp1 => ?_)
    refine kx_if (fun _ => ?_) (fun _ => ?_)
    · refine kx_bind (fun p3 hp3 => ?_)
      refine kx_lti (fun J4 eJ4 => ?_)
      have f3 : fk [5, 7, 8] I J4 := eJ4 ▸ fk.wr (by decide) f0
      refine kx_bind (fun p5 hp5 => ?_)
      have f4 : fk [5, 7, 8] I p5.2 := fk.trans f3 (fk.sub (by decide) (v_Model_product hvu hp5))
      refine kx_if (fun _ => ?_) (fun _ => ?_)
      · exact fun h => fk.trans f4 (ih h)
      · exact fun h => fk.trans f4 (ih h)
    · refine kx_bind (fun p7 hp7 => ?_)
      refine kx_if (fun _ => ?_) (fun _ => ?_)
      · refine kx_bind (fun p9 hp9 => ?_)
        refine kx_lti (fun J10 eJ10 => ?_)
        have f7 : fk [5, 7, 8] I J10 := eJ10 ▸ fk.wr (by decide) f0
        refine kx_bind (fun p11 hp11 => ?_)
        have f8 : fk [5, 7, 8] I p11.2 := fk.trans f7 (fk.sub (by decide) (v_Model_product hvu hp11))
        refine kx_if (fun _ => ?_) (fun _ => ?_)
        · exact fun h => fk.trans f8 (ih h)
        · exact fun h => fk.trans f8 (ih h)
      · intro h; have h := Option.some.inj h; subst h
        exact f0
theorem v_Model_sum {u : HI → Option (Int32 × HI)} {I : HI} (hvu : ∀ {I : HI} {r : Int32 × HI}, u  I = some r → fk [5, 7, 8] I r.2) {r : Int32 × HI} : M_Model_sum u I = some r → fk [5, 7, 8] I r.2 := by
  unfold M_Model_sum
  have f0 : fk [5, 7, 8] I I := fk.refl
  refine kx_bind (fun p1 hp1 => ?_)
  have f1 : fk [5, 7, 8] I p1.2 := fk.trans f0 (fk.sub (by decide) (v_Model_product hvu hp1))
  refine kx_bind (fun p2 hp2 => ?_)
  have f2 : fk [5, 7, 8] I p2.2 := fk.trans f1 (fk.sub (by decide) (v_L_Model_sum_5 hvu hp2))
  intro h; have h := Option.some.inj h; subst h
  exact f2
theorem v_Model_compared {u : HI → Option (Int32 × HI)} {I : HI} (hvu : ∀ {I : HI} {r : Int32 × HI}, u  I = some r → fk [5, 7, 8] I r.2) {r : Int32 × HI} : M_Model_compared u I = some r → fk [5, 7, 8] I r.2 := by
  unfold M_Model_compared
  have f0 : fk [5, 7, 8] I I := fk.refl
  refine kx_bind (fun p1 hp1 => ?_)
  have f1 : fk [5, 7, 8] I p1.2 := fk.trans f0 (fk.sub (by decide) (v_Model_sum hvu hp1))
  refine kx_bind (fun p2 hp2 => ?_)
  refine kx_if (fun _ => ?_) (fun _ => ?_)
  · refine kx_lti (fun J4 eJ4 => ?_)
    have f3 : fk [5, 7, 8] I J4 := eJ4 ▸ fk.wr (by decide) f1
    refine kx_bind (fun p5 hp5 => ?_)
    have f4 : fk [5, 7, 8] I p5.2 := fk.trans f3 (fk.sub (by decide) (v_Model_sum hvu hp5))
    refine kx_if (fun _ => ?_) (fun _ => ?_)
    · intro h; have h := Option.some.inj h; subst h
      exact f4
    · intro h; have h := Option.some.inj h; subst h
      exact f4
  · refine kx_if (fun _ => ?_) (fun _ => ?_)
    · refine kx_lti (fun J8 eJ8 => ?_)
      have f5 : fk [5, 7, 8] I J8 := eJ8 ▸ fk.wr (by decide) f1
      refine kx_bind (fun p9 hp9 => ?_)
      have f6 : fk [5, 7, 8] I p9.2 := fk.trans f5 (fk.sub (by decide) (v_Model_sum hvu hp9))
      refine kx_if (fun _ => ?_) (fun _ => ?_)
      · intro h; have h := Option.some.inj h; subst h
        exact f6
      · intro h; have h := Option.some.inj h; subst h
        exact f6
    · refine kx_if (fun _ => ?_) (fun _ => ?_)
      · refine kx_lti (fun J12 eJ12 => ?_)
        have f7 : fk [5, 7, 8] I J12 := eJ12 ▸ fk.wr (by decide) f1
        refine kx_bind (fun p13 hp13 => ?_)
        have f8 : fk [5, 7, 8] I p13.2 := fk.trans f7 (fk.sub (by decide) (v_Model_sum hvu hp13))
        refine kx_if (fun _ => ?_) (fun _ => ?_)
        · intro h; have h := Option.some.inj h; subst h
          exact f8
        · intro h; have h := Option.some.inj h; subst h
          exact f8
      · intro h; have h := Option.some.inj h; subst h
        exact f1
theorem v_Model_takes {I : HI} {x1 : Int32} {r : Int32 × HI} : M_Model_takes I x1 = some r → fk [5] I r.2 := by
  unfold M_Model_takes
  have f0 : fk [5] I I := fk.refl
  refine kx_bind (fun p1 hp1 => ?_)
  refine kx_if (fun _ => ?_) (fun _ => ?_)
  · refine kx_lti (fun J3 eJ3 => ?_)
    have f2 : fk [5] I J3 := eJ3 ▸ fk.wr (by decide) f0
    intro h; have h := Option.some.inj h; subst h
    exact f2
  · intro h; have h := Option.some.inj h; subst h
    exact f0
theorem v_L_Model_both_5 {u : HI → Option (Int32 × HI)} (hvu : ∀ {I : HI} {r : Int32 × HI}, u  I = some r → fk [5, 7, 8] I r.2) : ∀ {f : Nat} {x1 : Int32} {I : HI} {r : Int32 × HI}, L_Model_both_5 u f x1 I = some r → fk [5, 7, 8] I r.2 := by
  intro f
  induction f with
  | zero => intro x1 I r h; rw [L_Model_both_5] at h; cases h
  | succ f ih =>
    intro x1 I r
    rw [L_Model_both_5]
    have f0 : fk [5, 7, 8] I I := fk.refl
    refine kx_bind (fun p1 hp1 => ?_)
    have f1 : fk [5, 7, 8] I p1.2 := fk.trans f0 (fk.sub (by decide) (v_Model_takes hp1))
    refine kx_if (fun _ => ?_) (fun _ => ?_)
    · intro h; have h := Option.some.inj h; subst h
      exact f1
    · refine kx_bind (fun p3 hp3 => ?_)
      have f2 : fk [5, 7, 8] I p3.2 := fk.trans f1 (fk.sub (by decide) (v_Model_compared hvu hp3))
      refine kx_if (fun _ => ?_) (fun _ => ?_)
      · exact fun h => fk.trans f2 (ih h)
      · refine kx_if (fun _ => ?_) (fun _ => ?_)
        · exact fun h => fk.trans f2 (ih h)
        · exact fun h => fk.trans f2 (ih h)
theorem v_Model_both {u : HI → Option (Int32 × HI)} {I : HI} (hvu : ∀ {I : HI} {r : Int32 × HI}, u  I = some r → fk [5, 7, 8] I r.2) {r : Int32 × HI} : M_Model_both u I = some r → fk [5, 7, 8] I r.2 := by
  unfold M_Model_both
  have f0 : fk [5, 7, 8] I I := fk.refl
  refine kx_bind (fun p1 hp1 => ?_)
  have f1 : fk [5, 7, 8] I p1.2 := fk.trans f0 (fk.sub (by decide) (v_Model_compared hvu hp1))
  refine kx_bind (fun p2 hp2 => ?_)
  have f2 : fk [5, 7, 8] I p2.2 := fk.trans f1 (fk.sub (by decide) (v_L_Model_both_5 hvu hp2))
  intro h; have h := Option.some.inj h; subst h
  exact f2
theorem v_L_Model_either_5 {u : HI → Option (Int32 × HI)} (hvu : ∀ {I : HI} {r : Int32 × HI}, u  I = some r → fk [5, 7, 8] I r.2) : ∀ {f : Nat} {x1 : Int32} {I : HI} {r : Int32 × HI}, L_Model_either_5 u f x1 I = some r → fk [5, 7, 8] I r.2 := by
  intro f
  induction f with
  | zero => intro x1 I r h; rw [L_Model_either_5] at h; cases h
  | succ f ih =>
    intro x1 I r
    rw [L_Model_either_5]
    have f0 : fk [5, 7, 8] I I := fk.refl
    refine kx_bind (fun p1 hp1 => ?_)
    have f1 : fk [5, 7, 8] I p1.2 := fk.trans f0 (fk.sub (by decide) (v_Model_takes hp1))
    refine kx_if (fun _ => ?_) (fun _ => ?_)
    · intro h; have h := Option.some.inj h; subst h
      exact f1
    · refine kx_bind (fun p3 hp3 => ?_)
      have f2 : fk [5, 7, 8] I p3.2 := fk.trans f1 (fk.sub (by decide) (v_Model_both hvu hp3))
      refine kx_if (fun _ => ?_) (fun _ => ?_)
      · refine kx_if (fun _ => ?_) (fun _ => ?_)
        · exact fun h => fk.trans f2 (ih h)
        · exact fun h => fk.trans f2 (ih h)
      · exact fun h => fk.trans f2 (ih h)
theorem v_Model_either {u : HI → Option (Int32 × HI)} {I : HI} (hvu : ∀ {I : HI} {r : Int32 × HI}, u  I = some r → fk [5, 7, 8] I r.2) {r : Int32 × HI} : M_Model_either u I = some r → fk [5, 7, 8] I r.2 := by
  unfold M_Model_either
  have f0 : fk [5, 7, 8] I I := fk.refl
  refine kx_bind (fun p1 hp1 => ?_)
  have f1 : fk [5, 7, 8] I p1.2 := fk.trans f0 (fk.sub (by decide) (v_Model_both hvu hp1))
  refine kx_bind (fun p2 hp2 => ?_)
  have f2 : fk [5, 7, 8] I p2.2 := fk.trans f1 (fk.sub (by decide) (v_L_Model_either_5 hvu hp2))
  intro h; have h := Option.some.inj h; subst h
  exact f2
theorem v_L_Model_unit_150 {u : HI → Option (Int32 × HI)} (hvu : ∀ {I : HI} {r : Int32 × HI}, u  I = some r → fk [5, 7, 8] I r.2) : ∀ {f : Nat} {x3 : Int32} {x4 : Int32} {I : HI} {r : Int32 × Int32 × HI}, L_Model_unit_150 u f x3 x4 I = some r → fk [5] I r.2.2 := by
  intro f
  induction f with
  | zero => intro x3 x4 I r h; rw [L_Model_unit_150] at h; cases h
  | succ f ih =>
    intro x3 x4 I r
    rw [L_Model_unit_150]
    have f0 : fk [5] I I := fk.refl
    refine kx_if (fun _ => ?_) (fun _ => ?_)
    · intro h; have h := Option.some.inj h; subst h
      exact f0
    · refine kx_bind (fun p2 hp2 => ?_)
      refine kx_if (fun _ => ?_) (fun _ => ?_)
      · intro h; have h := Option.some.inj h; subst h
        exact f0
      · refine kx_bind (fun p4 hp4 => ?_)
        refine kx_lti (fun J5 eJ5 => ?_)
        have f3 : fk [5] I J5 := eJ5 ▸ fk.wr (by decide) f0
        exact fun h => fk.trans f3 (ih h)
theorem v_Model_unit {u : HI → Option (Int32 × HI)} {I : HI} (hvu : ∀ {I : HI} {r : Int32 × HI}, u  I = some r → fk [5, 7, 8] I r.2) {r : Int32 × HI} : M_Model_unit u I = some r → fk [5, 7, 8] I r.2 := by
  unfold M_Model_unit
  have f0 : fk [5, 7, 8] I I := fk.refl
  refine kx_bind (fun p1 hp1 => ?_)
  refine kx_if (fun _ => ?_) (fun _ => ?_)
  · refine kx_if (fun _ => ?_) (fun _ => ?_)
    · refine kx_lti (fun p4 hp4 => ?_)
      have f2 : fk [5, 7, 8] I p4.2 := fk.trans f0 (fk.sub (by decide) (v_Model_wrong hp4))
      intro h; have h := Option.some.inj h; subst h
      exact f2
    · refine kx_lti (fun J5 eJ5 => ?_)
      have f3 : fk [5, 7, 8] I J5 := eJ5 ▸ fk.wr (by decide) f0
      refine kx_lti (fun J6 eJ6 => ?_)
      have f4 : fk [5, 7, 8] I J6 := eJ6 ▸ fk.wr (by decide) f3
      refine kx_if (fun _ => ?_) (fun _ => ?_)
      · refine kx_bind (fun p8 hp8 => ?_)
        have f5 : fk [5, 7, 8] I p8.2 := fk.trans f4 (fk.sub (by decide) (v_Model_either hvu hp8))
        refine kx_bind (fun p9 hp9 => ?_)
        have f6 : fk [5, 7, 8] I p9.2 := fk.trans f5 (fk.sub (by decide) (v_Model_takes hp9))
        refine kx_if (fun _ => ?_) (fun _ => ?_)
        · refine kx_lti (fun p11 hp11 => ?_)
          have f7 : fk [5, 7, 8] I p11.2 := fk.trans f6 (fk.sub (by decide) (v_Model_wrong hp11))
          intro h; have h := Option.some.inj h; subst h
          exact f7
        · refine kx_lti (fun J12 eJ12 => ?_)
          have f8 : fk [5, 7, 8] I J12 := eJ12 ▸ fk.wr (by decide) f6
          intro h; have h := Option.some.inj h; subst h
          exact f8
      · refine kx_bind (fun p13 hp13 => ?_)
        have f9 : fk [5, 7, 8] I p13.2 := fk.trans f4 (fk.sub (by decide) (hvu hp13))
        refine kx_lti (fun J14 eJ14 => ?_)
        have f10 : fk [5, 7, 8] I J14 := eJ14 ▸ fk.wr (by decide) f9
        refine kx_if (fun _ => ?_) (fun _ => ?_)
        · intro h; have h := Option.some.inj h; subst h
          exact f10
        · intro h; have h := Option.some.inj h; subst h
          exact f10
  · refine kx_if (fun _ => ?_) (fun _ => ?_)
    · refine kx_if (fun _ => ?_) (fun _ => ?_)
      · refine kx_lti (fun p18 hp18 => ?_)
        have f11 : fk [5, 7, 8] I p18.2 := fk.trans f0 (fk.sub (by decide) (v_Model_wrong hp18))
        intro h; have h := Option.some.inj h; subst h
        exact f11
      · refine kx_lti (fun J19 eJ19 => ?_)
        have f12 : fk [5, 7, 8] I J19 := eJ19 ▸ fk.wr (by decide) f0
        refine kx_lti (fun J20 eJ20 => ?_)
        have f13 : fk [5, 7, 8] I J20 := eJ20 ▸ fk.wr (by decide) f12
        refine kx_bind (fun p21 hp21 => ?_)
        have f14 : fk [5, 7, 8] I p21.2 := fk.trans f13 (fk.sub (by decide) (v_Model_either hvu hp21))
        refine kx_bind (fun p22 hp22 => ?_)
        have f15 : fk [5, 7, 8] I p22.2 := fk.trans f14 (fk.sub (by decide) (v_Model_takes hp22))
        refine kx_if (fun _ => ?_) (fun _ => ?_)
        · refine kx_lti (fun p24 hp24 => ?_)
          have f16 : fk [5, 7, 8] I p24.2 := fk.trans f15 (fk.sub (by decide) (v_Model_wrong hp24))
          intro h; have h := Option.some.inj h; subst h
          exact f16
        · refine kx_lti (fun J25 eJ25 => ?_)
          have f17 : fk [5, 7, 8] I J25 := eJ25 ▸ fk.wr (by decide) f15
          intro h; have h := Option.some.inj h; subst h
          exact f17
    · refine kx_if (fun _ => ?_) (fun _ => ?_)
      · refine kx_bind (fun p27 hp27 => ?_)
        have f18 : fk [5, 7, 8] I p27.2.2 := fk.trans f0 (fk.sub (by decide) (v_L_Model_unit_150 hvu hp27))
        refine kx_if (fun _ => ?_) (fun _ => ?_)
        · refine kx_lti (fun p29 hp29 => ?_)
          have f19 : fk [5, 7, 8] I p29.2 := fk.trans f18 (fk.sub (by decide) (v_Model_wrong hp29))
          intro h; have h := Option.some.inj h; subst h
          exact f19
        · intro h; have h := Option.some.inj h; subst h
          exact f18
      · refine kx_lti (fun J30 eJ30 => ?_)
        have f20 : fk [5, 7, 8] I J30 := eJ30 ▸ fk.wr (by decide) f0
        refine kx_grd (fun b31 => ?_)
        intro h; have h := Option.some.inj h; subst h
        exact f20
theorem v_U_unit : ∀ (f : Nat) {I : HI} {r : Int32 × HI}, U_unit f I = some r → fk [5, 7, 8] I r.2 := by
  intro f
  induction f with
  | zero => intro I r h; rw [U_unit] at h; cases h
  | succ f ih =>
    intro I r h
    rw [U_unit] at h
    exact fk.sub (by decide) (v_Model_unit ih h)
theorem v_Model_ran {I : HI} {x1 : Int32} {r : HI} : M_Model_ran I x1 = some r → fk [21] I r := by
  unfold M_Model_ran
  have f0 : fk [21] I I := fk.refl
  refine kx_if (fun _ => ?_) (fun _ => ?_)
  · intro h; have h := Option.some.inj h; subst h
    exact f0
  · refine kx_grd (fun b2 => ?_)
    refine kx_lti (fun J3 eJ3 => ?_)
    have f1 : fk [21] I J3 := eJ3 ▸ fk.wr0 (by decide) f0
    refine kx_lti (fun J4 eJ4 => ?_)
    have f2 : fk [21] I J4 := eJ4 ▸ fk.wr (by decide) f1
    intro h; have h := Option.some.inj h; subst h
    exact f2
theorem v_Model_draws {udraws : Int32 → Int32 → HI → Option (Int32 × HI)} {I : HI} {x1 : Int32} {x2 : Int32} (hvudraws : ∀ {a0 a1 : Int32} {I : HI} {r : Int32 × HI}, udraws a0 a1 I = some r → fk [21] I r.2) {r : Int32 × HI} : M_Model_draws udraws I x1 x2 = some r → fk [21] I r.2 := by
  unfold M_Model_draws
  have f0 : fk [21] I I := fk.refl
  refine kx_if (fun _ => ?_) (fun _ => ?_)
  · refine kx_bind (fun p2 hp2 => ?_)
    have f1 : fk [21] I p2 := fk.trans f0 (fk.sub (by decide) (v_Model_ran hp2))
    intro h; have h := Option.some.inj h; subst h
    exact f1
  · refine kx_if (fun _ => ?_) (fun _ => ?_)
    · refine kx_bind (fun p4 hp4 => ?_)
      have f2 : fk [21] I p4 := fk.trans f0 (fk.sub (by decide) (v_Model_ran hp4))
      refine kx_bind (fun p5 hp5 => ?_)
      have f3 : fk [21] I p5.2 := fk.trans f2 (fk.sub (by decide) (hvudraws hp5))
      intro h; have h := Option.some.inj h; subst h
      exact f3
    · refine kx_bind (fun p6 hp6 => ?_)
      have f4 : fk [21] I p6.2 := fk.trans f0 (fk.sub (by decide) (hvudraws hp6))
      intro h; have h := Option.some.inj h; subst h
      exact f4
theorem v_U_draws : ∀ (f : Nat) {a b : Int32} {I : HI} {r : Int32 × HI}, U_draws f a b I = some r → fk [21] I r.2 := by
  intro f
  induction f with
  | zero => intro a b I r h; rw [U_draws] at h; cases h
  | succ f ih =>
    intro a b I r h
    rw [U_draws] at h
    exact fk.sub (by decide) (v_Model_draws ih h)
theorem v_Model_peels {upeels : Int32 → Int32 → HI → Option (Int32 × HI)} {I : HI} {x1 : Int32} {x2 : Int32} (hvupeels : ∀ {a0 a1 : Int32} {I : HI} {r : Int32 × HI}, upeels a0 a1 I = some r → fk [21] I r.2) {r : Int32 × HI} : M_Model_peels upeels I x1 x2 = some r → fk [21] I r.2 := by
  unfold M_Model_peels
  have f0 : fk [21] I I := fk.refl
  refine kx_if (fun _ => ?_) (fun _ => ?_)
  · refine kx_bind (fun p2 hp2 => ?_)
    have f1 : fk [21] I p2 := fk.trans f0 (fk.sub (by decide) (v_Model_ran hp2))
    refine kx_bind (fun p3 hp3 => ?_)
    intro h; have h := Option.some.inj h; subst h
    exact f1
  · refine kx_if (fun _ => ?_) (fun _ => ?_)
    · refine kx_bind (fun p5 hp5 => ?_)
      have f3 : fk [21] I p5 := fk.trans f0 (fk.sub (by decide) (v_Model_ran hp5))
      refine kx_bind (fun p6 hp6 => ?_)
      have f4 : fk [21] I p6.2 := fk.trans f3 (fk.sub (by decide) (hvupeels hp6))
      intro h; have h := Option.some.inj h; subst h
      exact f4
    · refine kx_if (fun _ => ?_) (fun _ => ?_)
      · refine kx_bind (fun p8 hp8 => ?_)
        have f5 : fk [21] I p8 := fk.trans f0 (fk.sub (by decide) (v_Model_ran hp8))
        refine kx_bind (fun p9 hp9 => ?_)
        have f6 : fk [21] I p9.2 := fk.trans f5 (fk.sub (by decide) (hvupeels hp9))
        intro h; have h := Option.some.inj h; subst h
        exact f6
      · refine kx_bind (fun p10 hp10 => ?_)
        have f7 : fk [21] I p10.2 := fk.trans f0 (fk.sub (by decide) (hvupeels hp10))
        intro h; have h := Option.some.inj h; subst h
        exact f7
theorem v_U_peels : ∀ (f : Nat) {a b : Int32} {I : HI} {r : Int32 × HI}, U_peels f a b I = some r → fk [21] I r.2 := by
  intro f
  induction f with
  | zero => intro a b I r h; rw [U_peels] at h; cases h
  | succ f ih =>
    intro a b I r h
    rw [U_peels] at h
    exact fk.sub (by decide) (v_Model_peels ih h)
theorem v_Model_dries {udries : Int32 → Int32 → HI → Option (Int32 × HI)} {I : HI} {x1 : Int32} {x2 : Int32} (hvudries : ∀ {a0 a1 : Int32} {I : HI} {r : Int32 × HI}, udries a0 a1 I = some r → fk [21] I r.2) {r : Int32 × HI} : M_Model_dries udries I x1 x2 = some r → fk [21] I r.2 := by
  unfold M_Model_dries
  have f0 : fk [21] I I := fk.refl
  refine kx_if (fun _ => ?_) (fun _ => ?_)
  · refine kx_bind (fun p2 hp2 => ?_)
    have f1 : fk [21] I p2 := fk.trans f0 (fk.sub (by decide) (v_Model_ran hp2))
    refine kx_bind (fun p3 hp3 => ?_)
    refine kx_bind (fun p4 hp4 => ?_)
    have f3 : fk [21] I p4.2 := fk.trans f1 (fk.sub (by decide) (v_Model_draws (v_U_draws 4) hp4))
    intro h; have h := Option.some.inj h; subst h
    exact f3
  · refine kx_if (fun _ => ?_) (fun _ => ?_)
    · refine kx_bind (fun p6 hp6 => ?_)
      have f4 : fk [21] I p6 := fk.trans f0 (fk.sub (by decide) (v_Model_ran hp6))
      refine kx_bind (fun p7 hp7 => ?_)
      have f5 : fk [21] I p7.2 := fk.trans f4 (fk.sub (by decide) (hvudries hp7))
      refine kx_bind (fun p8 hp8 => ?_)
      refine kx_bind (fun p9 hp9 => ?_)
      have f7 : fk [21] I p9.2 := fk.trans f5 (fk.sub (by decide) (v_Model_peels (v_U_peels 4) hp9))
      intro h; have h := Option.some.inj h; subst h
      exact f7
    · refine kx_if (fun _ => ?_) (fun _ => ?_)
      · refine kx_bind (fun p11 hp11 => ?_)
        have f8 : fk [21] I p11.2 := fk.trans f0 (fk.sub (by decide) (hvudries hp11))
        intro h; have h := Option.some.inj h; subst h
        exact f8
      · refine kx_if (fun _ => ?_) (fun _ => ?_)
        · refine kx_bind (fun p13 hp13 => ?_)
          have f9 : fk [21] I p13.2 := fk.trans f0 (fk.sub (by decide) (hvudries hp13))
          intro h; have h := Option.some.inj h; subst h
          exact f9
        · refine kx_if (fun _ => ?_) (fun _ => ?_)
          · refine kx_bind (fun p15 hp15 => ?_)
            have f10 : fk [21] I p15 := fk.trans f0 (fk.sub (by decide) (v_Model_ran hp15))
            refine kx_bind (fun p16 hp16 => ?_)
            have f11 : fk [21] I p16.2 := fk.trans f10 (fk.sub (by decide) (hvudries hp16))
            intro h; have h := Option.some.inj h; subst h
            exact f11
          · refine kx_bind (fun p17 hp17 => ?_)
            have f12 : fk [21] I p17.2 := fk.trans f0 (fk.sub (by decide) (hvudries hp17))
            intro h; have h := Option.some.inj h; subst h
            exact f12
theorem v_U_dries : ∀ (f : Nat) {a b : Int32} {I : HI} {r : Int32 × HI}, U_dries f a b I = some r → fk [21] I r.2 := by
  intro f
  induction f with
  | zero => intro a b I r h; rw [U_dries] at h; cases h
  | succ f ih =>
    intro a b I r h
    rw [U_dries] at h
    exact fk.sub (by decide) (v_Model_dries ih h)
theorem v_Model_tells {utells : Int32 → Int32 → HI → Option (Int32 × HI)} {I : HI} {x1 : Int32} {x2 : Int32} (hvutells : ∀ {a0 a1 : Int32} {I : HI} {r : Int32 × HI}, utells a0 a1 I = some r → fk [21] I r.2) {r : Int32 × HI} : M_Model_tells utells I x1 x2 = some r → fk [21] I r.2 := by
  unfold M_Model_tells
  have f0 : fk [21] I I := fk.refl
  refine kx_if (fun _ => ?_) (fun _ => ?_)
  · refine kx_bind (fun p2 hp2 => ?_)
    have f1 : fk [21] I p2 := fk.trans f0 (fk.sub (by decide) (v_Model_ran hp2))
    refine kx_bind (fun p3 hp3 => ?_)
    refine kx_bind (fun p4 hp4 => ?_)
    have f3 : fk [21] I p4.2 := fk.trans f1 (fk.sub (by decide) (v_Model_dries (v_U_dries 4) hp4))
    refine kx_bind (fun p5 hp5 => ?_)
    refine kx_bind (fun p6 hp6 => ?_)
    have f5 : fk [21] I p6.2 := fk.trans f3 (fk.sub (by decide) (v_Model_peels (v_U_peels 4) hp6))
    intro h; have h := Option.some.inj h; subst h
    exact f5
  · refine kx_if (fun _ => ?_) (fun _ => ?_)
    · refine kx_bind (fun p8 hp8 => ?_)
      have f6 : fk [21] I p8 := fk.trans f0 (fk.sub (by decide) (v_Model_ran hp8))
      refine kx_bind (fun p9 hp9 => ?_)
      have f7 : fk [21] I p9.2 := fk.trans f6 (fk.sub (by decide) (hvutells hp9))
      refine kx_bind (fun p10 hp10 => ?_)
      refine kx_bind (fun p11 hp11 => ?_)
      have f9 : fk [21] I p11.2 := fk.trans f7 (fk.sub (by decide) (v_Model_draws (v_U_draws 4) hp11))
      intro h; have h := Option.some.inj h; subst h
      exact f9
    · refine kx_if (fun _ => ?_) (fun _ => ?_)
      · refine kx_bind (fun p13 hp13 => ?_)
        have f10 : fk [21] I p13 := fk.trans f0 (fk.sub (by decide) (v_Model_ran hp13))
        refine kx_bind (fun p14 hp14 => ?_)
        refine kx_bind (fun p15 hp15 => ?_)
        have f12 : fk [21] I p15.2 := fk.trans f10 (fk.sub (by decide) (v_Model_dries (v_U_dries 4) hp15))
        refine kx_bind (fun p16 hp16 => ?_)
        have f13 : fk [21] I p16.2 := fk.trans f12 (fk.sub (by decide) (hvutells hp16))
        intro h; have h := Option.some.inj h; subst h
        exact f13
      · refine kx_bind (fun p17 hp17 => ?_)
        have f14 : fk [21] I p17.2 := fk.trans f0 (fk.sub (by decide) (hvutells hp17))
        intro h; have h := Option.some.inj h; subst h
        exact f14
theorem v_U_tells : ∀ (f : Nat) {a b : Int32} {I : HI} {r : Int32 × HI}, U_tells f a b I = some r → fk [21] I r.2 := by
  intro f
  induction f with
  | zero => intro a b I r h; rw [U_tells] at h; cases h
  | succ f ih =>
    intro a b I r h
    rw [U_tells] at h
    exact fk.sub (by decide) (v_Model_tells ih h)
theorem v_Model_worked {I : HI} {x1 : Int32} {x2 : Int32} {x3 : Int32} {r : Int32 × HI} : M_Model_worked I x1 x2 x3 = some r → fk [4, 5, 6, 7, 8, 9] I r.2 := by
  unfold M_Model_worked
  have f0 : fk [4, 5, 6, 7, 8, 9] I I := fk.refl
  refine kx_lti (fun J1 eJ1 => ?_)
  have f1 : fk [4, 5, 6, 7, 8, 9] I J1 := eJ1 ▸ fk.wr (by decide) f0
  refine kx_lti (fun J2 eJ2 => ?_)
  have f2 : fk [4, 5, 6, 7, 8, 9] I J2 := eJ2 ▸ fk.wr (by decide) f1
  refine kx_lti (fun J3 eJ3 => ?_)
  have f3 : fk [4, 5, 6, 7, 8, 9] I J3 := eJ3 ▸ fk.wr (by decide) f2
  refine kx_lti (fun J4 eJ4 => ?_)
  have f4 : fk [4, 5, 6, 7, 8, 9] I J4 := eJ4 ▸ fk.wr (by decide) f3
  refine kx_lti (fun J5 eJ5 => ?_)
  have f5 : fk [4, 5, 6, 7, 8, 9] I J5 := eJ5 ▸ fk.wr (by decide) f4
  refine kx_if (fun _ => ?_) (fun _ => ?_)
  · refine kx_lti (fun J7 eJ7 => ?_)
    have f6 : fk [4, 5, 6, 7, 8, 9] I J7 := eJ7 ▸ fk.wr (by decide) f5
    refine kx_bind (fun p8 hp8 => ?_)
    have f7 : fk [4, 5, 6, 7, 8, 9] I p8.2 := fk.trans f6 (fk.sub (by decide) (v_Model_either (v_U_unit 7) hp8))
    refine kx_if (fun _ => ?_) (fun _ => ?_)
    · intro h; have h := Option.some.inj h; subst h
      exact f7
    · refine kx_if (fun _ => ?_) (fun _ => ?_)
      · intro h; have h := Option.some.inj h; subst h
        exact f7
      · refine kx_lti (fun p11 hp11 => ?_)
        have f8 : fk [4, 5, 6, 7, 8, 9] I p11.2 := fk.trans f7 (fk.sub (by decide) (v_Model_wrong hp11))
        intro h; have h := Option.some.inj h; subst h
        exact f8
  · refine kx_lti (fun J12 eJ12 => ?_)
    have f9 : fk [4, 5, 6, 7, 8, 9] I J12 := eJ12 ▸ fk.wr (by decide) f5
    refine kx_bind (fun p13 hp13 => ?_)
    have f10 : fk [4, 5, 6, 7, 8, 9] I p13.2 := fk.trans f9 (fk.sub (by decide) (v_Model_either (v_U_unit 7) hp13))
    refine kx_if (fun _ => ?_) (fun _ => ?_)
    · intro h; have h := Option.some.inj h; subst h
      exact f10
    · refine kx_if (fun _ => ?_) (fun _ => ?_)
      · intro h; have h := Option.some.inj h; subst h
        exact f10
      · refine kx_lti (fun p16 hp16 => ?_)
        have f11 : fk [4, 5, 6, 7, 8, 9] I p16.2 := fk.trans f10 (fk.sub (by decide) (v_Model_wrong hp16))
        intro h; have h := Option.some.inj h; subst h
        exact f11
theorem v_Model_gives {I : HI} {x1 : Int32} {x2 : Int32} {x3 : Int32} {x4 : Int32} {x5 : Int32} {r : Int32 × HI} : M_Model_gives I x1 x2 x3 x4 x5 = some r → fk [4, 5, 6, 7, 8, 9] I r.2 := by
  unfold M_Model_gives
  have f0 : fk [4, 5, 6, 7, 8, 9] I I := fk.refl
  refine kx_if (fun _ => ?_) (fun _ => ?_)
  · refine kx_grd (fun b2 => ?_)
    refine kx_if (fun _ => ?_) (fun _ => ?_)
    · intro h; have h := Option.some.inj h; subst h
      exact f0
    · refine kx_lti (fun J4 eJ4 => ?_)
      have f1 : fk [4, 5, 6, 7, 8, 9] I J4 := eJ4 ▸ fk.wr0 (by decide) f0
      refine kx_lti (fun J5 eJ5 => ?_)
      have f2 : fk [4, 5, 6, 7, 8, 9] I J5 := eJ5 ▸ fk.wr0 (by decide) f1
      refine kx_lti (fun J6 eJ6 => ?_)
      have f3 : fk [4, 5, 6, 7, 8, 9] I J6 := eJ6 ▸ fk.wr0 (by decide) f2
      refine kx_lti (fun J7 eJ7 => ?_)
      have f4 : fk [4, 5, 6, 7, 8, 9] I J7 := eJ7 ▸ fk.wr0 (by decide) f3
      refine kx_bind (fun p8 hp8 => ?_)
      have f5 : fk [4, 5, 6, 7, 8, 9] I p8.2 := fk.trans f4 (fk.sub (by decide) (v_Model_worked hp8))
      intro h; have h := Option.some.inj h; subst h
      exact f5
  · refine kx_grd (fun b9 => ?_)
    refine kx_if (fun _ => ?_) (fun _ => ?_)
    · intro h; have h := Option.some.inj h; subst h
      exact f0
    · refine kx_lti (fun J11 eJ11 => ?_)
      have f6 : fk [4, 5, 6, 7, 8, 9] I J11 := eJ11 ▸ fk.wr0 (by decide) f0
      refine kx_lti (fun J12 eJ12 => ?_)
      have f7 : fk [4, 5, 6, 7, 8, 9] I J12 := eJ12 ▸ fk.wr0 (by decide) f6
      refine kx_lti (fun J13 eJ13 => ?_)
      have f8 : fk [4, 5, 6, 7, 8, 9] I J13 := eJ13 ▸ fk.wr0 (by decide) f7
      refine kx_lti (fun J14 eJ14 => ?_)
      have f9 : fk [4, 5, 6, 7, 8, 9] I J14 := eJ14 ▸ fk.wr0 (by decide) f8
      refine kx_bind (fun p15 hp15 => ?_)
      have f10 : fk [4, 5, 6, 7, 8, 9] I p15.2 := fk.trans f9 (fk.sub (by decide) (v_Model_worked hp15))
      intro h; have h := Option.some.inj h; subst h
      exact f10
theorem v_Model_dates {I : HI} {x1 : Int32} {r : Int32 × HI} : M_Model_dates I x1 = some r → fk [4, 5, 6, 7, 8, 9] I r.2 := by
  unfold M_Model_dates
  have f0 : fk [4, 5, 6, 7, 8, 9] I I := fk.refl
  refine kx_bind (fun p1 hp1 => ?_)
  refine kx_bind (fun p2 hp2 => ?_)
  refine kx_bind (fun p3 hp3 => ?_)
  refine kx_bind (fun p4 hp4 => ?_)
  refine kx_bind (fun p5 hp5 => ?_)
  have f5 : fk [4, 5, 6, 7, 8, 9] I p5.2 := fk.trans f0 (fk.sub (by decide) (v_Model_gives hp5))
  intro h; have h := Option.some.inj h; subst h
  exact f5
theorem v_Model_earlyOf {I : HI} {x1 : Int32} {r : Int32 × HI} : M_Model_earlyOf I x1 = some r → fk [4, 5, 6, 7, 8, 9] I r.2 := by
  unfold M_Model_earlyOf
  have f0 : fk [4, 5, 6, 7, 8, 9] I I := fk.refl
  refine kx_bind (fun p1 hp1 => ?_)
  refine kx_bind (fun p2 hp2 => ?_)
  refine kx_bind (fun p3 hp3 => ?_)
  refine kx_if (fun _ => ?_) (fun _ => ?_)
  · refine kx_bind (fun p5 hp5 => ?_)
    have f4 : fk [4, 5, 6, 7, 8, 9] I p5.2 := fk.trans f0 (fk.sub (by decide) (v_Model_dates hp5))
    intro h; have h := Option.some.inj h; subst h
    exact f4
  · refine kx_if (fun _ => ?_) (fun _ => ?_)
    · refine kx_bind (fun p7 hp7 => ?_)
      have f5 : fk [4, 5, 6, 7, 8, 9] I p7.2 := fk.trans f0 (fk.sub (by decide) (v_Model_dates hp7))
      intro h; have h := Option.some.inj h; subst h
      exact f5
    · refine kx_if (fun _ => ?_) (fun _ => ?_)
      · refine kx_bind (fun p9 hp9 => ?_)
        have f6 : fk [4, 5, 6, 7, 8, 9] I p9.2 := fk.trans f0 (fk.sub (by decide) (v_Model_dates hp9))
        intro h; have h := Option.some.inj h; subst h
        exact f6
      · refine kx_if (fun _ => ?_) (fun _ => ?_)
        · refine kx_bind (fun p11 hp11 => ?_)
          have f7 : fk [4, 5, 6, 7, 8, 9] I p11.2 := fk.trans f0 (fk.sub (by decide) (v_Model_dates hp11))
          intro h; have h := Option.some.inj h; subst h
          exact f7
        · refine kx_if (fun _ => ?_) (fun _ => ?_)
          · refine kx_bind (fun p13 hp13 => ?_)
            refine kx_bind (fun p14 hp14 => ?_)
            have f9 : fk [4, 5, 6, 7, 8, 9] I p14.2 := fk.trans f0 (fk.sub (by decide) (v_Model_dates hp14))
            intro h; have h := Option.some.inj h; subst h
            exact f9
          · refine kx_if (fun _ => ?_) (fun _ => ?_)
            · refine kx_if (fun _ => ?_) (fun _ => ?_)
              · refine kx_bind (fun p17 hp17 => ?_)
                have f10 : fk [4, 5, 6, 7, 8, 9] I p17.2 := fk.trans f0 (fk.sub (by decide) (v_Model_dates hp17))
                intro h; have h := Option.some.inj h; subst h
                exact f10
              · refine kx_bind (fun p18 hp18 => ?_)
                have f11 : fk [4, 5, 6, 7, 8, 9] I p18.2 := fk.trans f0 (fk.sub (by decide) (v_Model_dates hp18))
                intro h; have h := Option.some.inj h; subst h
                exact f11
            · refine kx_bind (fun p19 hp19 => ?_)
              have f12 : fk [4, 5, 6, 7, 8, 9] I p19.2 := fk.trans f0 (fk.sub (by decide) (v_Model_dates hp19))
              intro h; have h := Option.some.inj h; subst h
              exact f12
theorem v_Model_lateOf {I : HI} {x1 : Int32} {r : Int32 × HI} : M_Model_lateOf I x1 = some r → fk [4, 5, 6, 7, 8, 9] I r.2 := by
  unfold M_Model_lateOf
  have f0 : fk [4, 5, 6, 7, 8, 9] I I := fk.refl
  refine kx_bind (fun p1 hp1 => ?_)
  refine kx_bind (fun p2 hp2 => ?_)
  refine kx_if (fun _ => ?_) (fun _ => ?_)
  · refine kx_bind (fun p4 hp4 => ?_)
    refine kx_bind (fun p5 hp5 => ?_)
    have f4 : fk [4, 5, 6, 7, 8, 9] I p5.2 := fk.trans f0 (fk.sub (by decide) (v_Model_dates hp5))
    intro h; have h := Option.some.inj h; subst h
    exact f4
  · refine kx_if (fun _ => ?_) (fun _ => ?_)
    · refine kx_bind (fun p7 hp7 => ?_)
      have f5 : fk [4, 5, 6, 7, 8, 9] I p7.2 := fk.trans f0 (fk.sub (by decide) (v_Model_dates hp7))
      intro h; have h := Option.some.inj h; subst h
      exact f5
    · refine kx_if (fun _ => ?_) (fun _ => ?_)
      · refine kx_bind (fun p9 hp9 => ?_)
        refine kx_bind (fun p10 hp10 => ?_)
        have f7 : fk [4, 5, 6, 7, 8, 9] I p10.2 := fk.trans f0 (fk.sub (by decide) (v_Model_dates hp10))
        intro h; have h := Option.some.inj h; subst h
        exact f7
      · refine kx_if (fun _ => ?_) (fun _ => ?_)
        · refine kx_bind (fun p12 hp12 => ?_)
          refine kx_bind (fun p13 hp13 => ?_)
          have f9 : fk [4, 5, 6, 7, 8, 9] I p13.2 := fk.trans f0 (fk.sub (by decide) (v_Model_dates hp13))
          intro h; have h := Option.some.inj h; subst h
          exact f9
        · refine kx_if (fun _ => ?_) (fun _ => ?_)
          · refine kx_bind (fun p15 hp15 => ?_)
            have f10 : fk [4, 5, 6, 7, 8, 9] I p15.2 := fk.trans f0 (fk.sub (by decide) (v_Model_dates hp15))
            intro h; have h := Option.some.inj h; subst h
            exact f10
          · refine kx_bind (fun p16 hp16 => ?_)
            have f11 : fk [4, 5, 6, 7, 8, 9] I p16.2 := fk.trans f0 (fk.sub (by decide) (v_Model_dates hp16))
            intro h; have h := Option.some.inj h; subst h
            exact f11
theorem v_Model_ofStroke {I : HI} {x1 : Int32} {x2 : Int32} {r : Int32 × HI} : M_Model_ofStroke I x1 x2 = some r → fk [4, 5, 6, 7, 8, 9] I r.2 := by
  unfold M_Model_ofStroke
  have f0 : fk [4, 5, 6, 7, 8, 9] I I := fk.refl
  refine kx_if (fun _ => ?_) (fun _ => ?_)
  · refine kx_bind (fun p2 hp2 => ?_)
    have f1 : fk [4, 5, 6, 7, 8, 9] I p2.2 := fk.trans f0 (fk.of (by decide) (w_Model_finds hp2))
    intro h; have h := Option.some.inj h; subst h
    exact f1
  · refine kx_if (fun _ => ?_) (fun _ => ?_)
    · refine kx_bind (fun p4 hp4 => ?_)
      have f2 : fk [4, 5, 6, 7, 8, 9] I p4.2 := fk.trans f0 (fk.of (by decide) (w_Model_finds hp4))
      intro h; have h := Option.some.inj h; subst h
      exact f2
    · refine kx_if (fun _ => ?_) (fun _ => ?_)
      · refine kx_if (fun _ => ?_) (fun _ => ?_)
        · refine kx_bind (fun p7 hp7 => ?_)
          have f3 : fk [4, 5, 6, 7, 8, 9] I p7.2 := fk.trans f0 (fk.sub (by decide) (v_Model_earlyOf hp7))
          intro h; have h := Option.some.inj h; subst h
          exact f3
        · refine kx_if (fun _ => ?_) (fun _ => ?_)
          · refine kx_bind (fun p9 hp9 => ?_)
            have f4 : fk [4, 5, 6, 7, 8, 9] I p9.2 := fk.trans f0 (fk.sub (by decide) (v_Model_lateOf hp9))
            intro h; have h := Option.some.inj h; subst h
            exact f4
          · refine kx_bind (fun p10 hp10 => ?_)
            intro h; have h := Option.some.inj h; subst h
            exact f0
      · refine kx_bind (fun p11 hp11 => ?_)
        intro h; have h := Option.some.inj h; subst h
        exact f0
theorem v_Model_weightOf {I : HI} {x1 : Int32} {r : Int32 × HI} : M_Model_weightOf I x1 = some r → fk [4, 5, 6, 7, 8, 9] I r.2 := by
  unfold M_Model_weightOf
  have f0 : fk [4, 5, 6, 7, 8, 9] I I := fk.refl
  refine kx_grd (fun b1 => ?_)
  refine kx_bind (fun p2 hp2 => ?_)
  refine kx_bind (fun p3 hp3 => ?_)
  refine kx_bind (fun p4 hp4 => ?_)
  refine kx_bind (fun p5 hp5 => ?_)
  refine kx_bind (fun p6 hp6 => ?_)
  have f5 : fk [4, 5, 6, 7, 8, 9] I p6.2 := fk.trans f0 (fk.sub (by decide) (v_Model_gives hp6))
  intro h; have h := Option.some.inj h; subst h
  exact f5
theorem v_Model_ofLook {I : HI} {x1 : Int32} {x2 : Int32} {r : Int32 × HI} : M_Model_ofLook I x1 x2 = some r → fk [4, 5, 6, 7, 8, 9] I r.2 := by
  unfold M_Model_ofLook
  have f0 : fk [4, 5, 6, 7, 8, 9] I I := fk.refl
  refine kx_if (fun _ => ?_) (fun _ => ?_)
  · refine kx_bind (fun p2 hp2 => ?_)
    have f1 : fk [4, 5, 6, 7, 8, 9] I p2.2 := fk.trans f0 (fk.of (by decide) (w_Model_finds hp2))
    intro h; have h := Option.some.inj h; subst h
    exact f1
  · refine kx_if (fun _ => ?_) (fun _ => ?_)
    · refine kx_bind (fun p4 hp4 => ?_)
      have f2 : fk [4, 5, 6, 7, 8, 9] I p4.2 := fk.trans f0 (fk.of (by decide) (w_Model_finds hp4))
      intro h; have h := Option.some.inj h; subst h
      exact f2
    · refine kx_if (fun _ => ?_) (fun _ => ?_)
      · refine kx_bind (fun p6 hp6 => ?_)
        have f3 : fk [4, 5, 6, 7, 8, 9] I p6.2 := fk.trans f0 (fk.sub (by decide) (v_Model_weightOf hp6))
        intro h; have h := Option.some.inj h; subst h
        exact f3
      · refine kx_grd (fun b7 => ?_)
        intro h; have h := Option.some.inj h; subst h
        exact f0
theorem v_Model_text {I : HI} {x1 : Int32} {r : Int32 × HI} : M_Model_text I x1 = some r → fk [4, 5, 6, 7, 8, 9] I r.2 := by
  unfold M_Model_text
  have f0 : fk [4, 5, 6, 7, 8, 9] I I := fk.refl
  refine kx_if (fun _ => ?_) (fun _ => ?_)
  · refine kx_bind (fun p2 hp2 => ?_)
    have f1 : fk [4, 5, 6, 7, 8, 9] I p2.2 := fk.trans f0 (fk.of (by decide) (w_Model_finds hp2))
    intro h; have h := Option.some.inj h; subst h
    exact f1
  · refine kx_lti (fun J3 eJ3 => ?_)
    have f2 : fk [4, 5, 6, 7, 8, 9] I J3 := eJ3 ▸ fk.wr0 (by decide) f0
    refine kx_bind (fun p4 hp4 => ?_)
    have f3 : fk [4, 5, 6, 7, 8, 9] I p4.2 := fk.trans f2 (fk.sub (by decide) (v_Model_worked hp4))
    refine kx_if (fun _ => ?_) (fun _ => ?_)
    · refine kx_grd (fun b6 => ?_)
      refine kx_lti (fun J7 eJ7 => ?_)
      have f4 : fk [4, 5, 6, 7, 8, 9] I J7 := eJ7 ▸ fk.wr0 (by decide) f3
      refine kx_bind (fun p8 hp8 => ?_)
      have f5 : fk [4, 5, 6, 7, 8, 9] I p8 := fk.trans f4 (fk.of (by decide) (w_L_Model_text_68 hp8))
      intro h; have h := Option.some.inj h; subst h
      exact f5
    · intro h; have h := Option.some.inj h; subst h
      exact f3
theorem v_Model_law {I : HI} {x1 : Int32} {x2 : Int32} {x3 : Int32} {x4 : Int32} {x5 : Int32} {r : Int32 × HI} : M_Model_law I x1 x2 x3 x4 x5 = some r → fk [4, 5, 6, 7, 8, 9] I r.2 := by
  unfold M_Model_law
  have f0 : fk [4, 5, 6, 7, 8, 9] I I := fk.refl
  refine kx_if (fun _ => ?_) (fun _ => ?_)
  · refine kx_bind (fun p2 hp2 => ?_)
    have f1 : fk [4, 5, 6, 7, 8, 9] I p2.2 := fk.trans f0 (fk.of (by decide) (w_Model_finds hp2))
    intro h; have h := Option.some.inj h; subst h
    exact f1
  · refine kx_bind (fun p3 hp3 => ?_)
    have f2 : fk [4, 5, 6, 7, 8, 9] I p3.2 := fk.trans f0 (fk.sub (by decide) (v_Model_gives hp3))
    intro h; have h := Option.some.inj h; subst h
    exact f2
theorem v_L_Model_costs_5 {x1 : Int32} {x2 : Int32} : ∀ {f : Nat} {x3 : Int32} {x4 : Int32} {I : HI} {r : Int32 × HI}, L_Model_costs_5 x1 x2 f x3 x4 I = some r → fk [4, 5, 6, 7, 8, 9] I r.2 := by
  intro f
  induction f with
  | zero => intro x3 x4 I r h; rw [L_Model_costs_5] at h; cases h
  | succ f ih =>
    intro x3 x4 I r
    rw [L_Model_costs_5]
    have f0 : fk [4, 5, 6, 7, 8, 9] I I := fk.refl
    refine kx_if (fun _ => ?_) (fun _ => ?_)
    · intro h; have h := Option.some.inj h; subst h
      exact f0
    · refine kx_bind (fun p2 hp2 => ?_)
      refine kx_if (fun _ => ?_) (fun _ => ?_)
      · refine kx_bind (fun p4 hp4 => ?_)
        refine kx_if (fun _ => ?_) (fun _ => ?_)
        · refine kx_bind (fun p6 hp6 => ?_)
          have f3 : fk [4, 5, 6, 7, 8, 9] I p6.2 := fk.trans f0 (fk.sub (by decide) (v_Model_weightOf hp6))
          exact fun h => fk.trans f3 (ih h)
        · exact fun h => fk.trans f0 (ih h)
      · exact fun h => fk.trans f0 (ih h)
theorem v_Model_costs {I : HI} {x1 : Int32} {x2 : Int32} {r : Int32 × HI} : M_Model_costs I x1 x2 = some r → fk [4, 5, 6, 7, 8, 9] I r.2 := by
  unfold M_Model_costs
  have f0 : fk [4, 5, 6, 7, 8, 9] I I := fk.refl
  refine kx_bind (fun p1 hp1 => ?_)
  have f1 : fk [4, 5, 6, 7, 8, 9] I p1.2 := fk.trans f0 (fk.sub (by decide) (v_L_Model_costs_5 hp1))
  intro h; have h := Option.some.inj h; subst h
  exact f1
theorem v_L_Model_findBest_30 {x2 : Int32} : ∀ {f : Nat} {x3 : Int32} {I : HI} {r : HI}, L_Model_findBest_30 x2 f x3 I = some r → fk [4, 5, 6, 7, 8, 9] I r := by
  intro f
  induction f with
  | zero => intro x3 I r h; rw [L_Model_findBest_30] at h; cases h
  | succ f ih =>
    intro x3 I r
    rw [L_Model_findBest_30]
    have f0 : fk [4, 5, 6, 7, 8, 9] I I := fk.refl
    refine kx_if (fun _ => ?_) (fun _ => ?_)
    · intro h; have h := Option.some.inj h; subst h
      exact f0
    · refine kx_if (fun _ => ?_) (fun _ => ?_)
      · refine kx_bind (fun p3 hp3 => ?_)
        have f1 : fk [4, 5, 6, 7, 8, 9] I p3.2 := fk.trans f0 (fk.sub (by decide) (v_Model_costs hp3))
        refine kx_grd (fun b4 => ?_)
        refine kx_lti (fun y5 ey5 => ?_)
        refine kx_grd (fun b6 => ?_)
        refine kx_if (fun _ => ?_) (fun _ => ?_)
        · refine kx_lti (fun J8 eJ8 => ?_)
          have f3 : fk [4, 5, 6, 7, 8, 9] I J8 := eJ8 ▸ fk.wr0 (by decide) f1
          exact fun h => fk.trans f3 (ih h)
        · refine kx_lti (fun J9 eJ9 => ?_)
          have f4 : fk [4, 5, 6, 7, 8, 9] I J9 := eJ9 ▸ fk.wr0 (by decide) f1
          exact fun h => fk.trans f4 (ih h)
      · exact fun h => fk.trans f0 (ih h)
theorem v_L_Model_findBest_16 : ∀ {f : Nat} {x2 : Int32} {I : HI} {r : HI}, L_Model_findBest_16 f x2 I = some r → fk [4, 5, 6, 7, 8, 9] I r := by
  intro f
  induction f with
  | zero => intro x2 I r h; rw [L_Model_findBest_16] at h; cases h
  | succ f ih =>
    intro x2 I r
    rw [L_Model_findBest_16]
    have f0 : fk [4, 5, 6, 7, 8, 9] I I := fk.refl
    refine kx_if (fun _ => ?_) (fun _ => ?_)
    · intro h; have h := Option.some.inj h; subst h
      exact f0
    · refine kx_grd (fun b2 => ?_)
      refine kx_lti (fun J3 eJ3 => ?_)
      have f1 : fk [4, 5, 6, 7, 8, 9] I J3 := eJ3 ▸ fk.wr0 (by decide) f0
      refine kx_bind (fun p4 hp4 => ?_)
      have f2 : fk [4, 5, 6, 7, 8, 9] I p4 := fk.trans f1 (fk.sub (by decide) (v_L_Model_findBest_30 hp4))
      exact fun h => fk.trans f2 (ih h)
theorem v_L_Model_findBest_124 {x2 : Int32} {x3 : Int32} : ∀ {f : Nat} {x4 : Int32} {I : HI} {r : Int32 × HI}, L_Model_findBest_124 x2 x3 f x4 I = some r → fk [4, 5, 6, 7, 8, 9] I r.2 := by
  intro f
  induction f with
  | zero => intro x4 I r h; rw [L_Model_findBest_124] at h; cases h
  | succ f ih =>
    intro x4 I r
    rw [L_Model_findBest_124]
    have f0 : fk [4, 5, 6, 7, 8, 9] I I := fk.refl
    refine kx_if (fun _ => ?_) (fun _ => ?_)
    · exact fun h => fk.trans f0 (ih h)
    · refine kx_bind (fun p2 hp2 => ?_)
      have f1 : fk [4, 5, 6, 7, 8, 9] I p2.2 := fk.trans f0 (fk.sub (by decide) (v_Model_costs hp2))
      refine kx_grd (fun b3 => ?_)
      refine kx_grd (fun b4 => ?_)
      refine kx_if (fun _ => ?_) (fun _ => ?_)
      · intro h; have h := Option.some.inj h; subst h
        exact f1
      · exact fun h => fk.trans f1 (ih h)
theorem v_L_Model_findBest_111 : ∀ {f : Nat} {x2 : Int32} {x3 : Int32} {I : HI} {r : HI}, L_Model_findBest_111 f x2 x3 I = some r → fk [4, 5, 6, 7, 8, 9] I r := by
  intro f
  induction f with
  | zero => intro x2 x3 I r h; rw [L_Model_findBest_111] at h; cases h
  | succ f ih =>
    intro x2 x3 I r
    rw [L_Model_findBest_111]
    have f0 : fk [4, 5, 6, 7, 8, 9] I I := fk.refl
    refine kx_if (fun _ => ?_) (fun _ => ?_)
    · intro h; have h := Option.some.inj h; subst h
      exact f0
    · refine kx_bind (fun p2 hp2 => ?_)
      have f1 : fk [4, 5, 6, 7, 8, 9] I p2.2 := fk.trans f0 (fk.sub (by decide) (v_L_Model_findBest_124 hp2))
      refine kx_grd (fun b3 => ?_)
      refine kx_lti (fun J4 eJ4 => ?_)
      have f2 : fk [4, 5, 6, 7, 8, 9] I J4 := eJ4 ▸ fk.wr0 (by decide) f1
      exact fun h => fk.trans f2 (ih h)
theorem v_Model_findBest {I : HI} {r : Int32 × HI} : M_Model_findBest I = some r → fk [4, 5, 6, 7, 8, 9] I r.2 := by
  unfold M_Model_findBest
  have f0 : fk [4, 5, 6, 7, 8, 9] I I := fk.refl
  refine kx_grd (fun b1 => ?_)
  refine kx_lti (fun J2 eJ2 => ?_)
  have f1 : fk [4, 5, 6, 7, 8, 9] I J2 := eJ2 ▸ fk.wr0 (by decide) f0
  refine kx_bind (fun p3 hp3 => ?_)
  have f2 : fk [4, 5, 6, 7, 8, 9] I p3 := fk.trans f1 (fk.sub (by decide) (v_L_Model_findBest_16 hp3))
  refine kx_bind (fun p4 hp4 => ?_)
  have f3 : fk [4, 5, 6, 7, 8, 9] I p4 := fk.trans f2 (fk.sub (by decide) (v_L_Model_findBest_111 hp4))
  intro h; have h := Option.some.inj h; subst h
  exact f3
theorem v_Model_best {I : HI} {x1 : Int32} {r : Int32 × HI} : M_Model_best I x1 = some r → fk [4, 5, 6, 7, 8, 9] I r.2 := by
  unfold M_Model_best
  have f0 : fk [4, 5, 6, 7, 8, 9] I I := fk.refl
  refine kx_if (fun _ => ?_) (fun _ => ?_)
  · refine kx_bind (fun p2 hp2 => ?_)
    have f1 : fk [4, 5, 6, 7, 8, 9] I p2.2 := fk.trans f0 (fk.of (by decide) (w_Model_finds hp2))
    intro h; have h := Option.some.inj h; subst h
    exact f1
  · refine kx_bind (fun p3 hp3 => ?_)
    have f2 : fk [4, 5, 6, 7, 8, 9] I p3.2 := fk.trans f0 (fk.sub (by decide) (v_Model_findBest hp3))
    refine kx_grd (fun b4 => ?_)
    intro h; have h := Option.some.inj h; subst h
    exact f2
theorem v_L_Model_findYears_2 : ∀ {f : Nat} {x1 : Int32} {I : HI} {r : HI}, L_Model_findYears_2 f x1 I = some r → fk [4, 5, 6, 7, 8, 9] I r := by
  intro f
  induction f with
  | zero => intro x1 I r h; rw [L_Model_findYears_2] at h; cases h
  | succ f ih =>
    intro x1 I r
    rw [L_Model_findYears_2]
    have f0 : fk [4, 5, 6, 7, 8, 9] I I := fk.refl
    refine kx_if (fun _ => ?_) (fun _ => ?_)
    · intro h; have h := Option.some.inj h; subst h
      exact f0
    · refine kx_bind (fun p2 hp2 => ?_)
      have f1 : fk [4, 5, 6, 7, 8, 9] I p2.2 := fk.trans f0 (fk.sub (by decide) (v_Model_earlyOf hp2))
      refine kx_grd (fun b3 => ?_)
      refine kx_lti (fun J4 eJ4 => ?_)
      have f2 : fk [4, 5, 6, 7, 8, 9] I J4 := eJ4 ▸ fk.wr0 (by decide) f1
      refine kx_bind (fun p5 hp5 => ?_)
      have f3 : fk [4, 5, 6, 7, 8, 9] I p5.2 := fk.trans f2 (fk.sub (by decide) (v_Model_lateOf hp5))
      refine kx_lti (fun J6 eJ6 => ?_)
      have f4 : fk [4, 5, 6, 7, 8, 9] I J6 := eJ6 ▸ fk.wr0 (by decide) f3
      exact fun h => fk.trans f4 (ih h)
theorem v_Model_findYears {I : HI} {r : HI} : M_Model_findYears I = some r → fk [4, 5, 6, 7, 8, 9] I r := by
  unfold M_Model_findYears
  have f0 : fk [4, 5, 6, 7, 8, 9] I I := fk.refl
  refine kx_bind (fun p1 hp1 => ?_)
  have f1 : fk [4, 5, 6, 7, 8, 9] I p1 := fk.trans f0 (fk.sub (by decide) (v_L_Model_findYears_2 hp1))
  intro h; have h := Option.some.inj h; subst h
  exact f1
theorem v_Model_span {I : HI} {x1 : Int32} {x2 : Int32} {r : Int32 × HI} : M_Model_span I x1 x2 = some r → fk [4, 5, 6, 7, 8, 9] I r.2 := by
  unfold M_Model_span
  have f0 : fk [4, 5, 6, 7, 8, 9] I I := fk.refl
  refine kx_if (fun _ => ?_) (fun _ => ?_)
  · refine kx_bind (fun p2 hp2 => ?_)
    have f1 : fk [4, 5, 6, 7, 8, 9] I p2.2 := fk.trans f0 (fk.of (by decide) (w_Model_finds hp2))
    intro h; have h := Option.some.inj h; subst h
    exact f1
  · refine kx_if (fun _ => ?_) (fun _ => ?_)
    · refine kx_bind (fun p4 hp4 => ?_)
      have f2 : fk [4, 5, 6, 7, 8, 9] I p4.2 := fk.trans f0 (fk.of (by decide) (w_Model_finds hp4))
      intro h; have h := Option.some.inj h; subst h
      exact f2
    · refine kx_bind (fun p5 hp5 => ?_)
      have f3 : fk [4, 5, 6, 7, 8, 9] I p5 := fk.trans f0 (fk.sub (by decide) (v_Model_findYears hp5))
      refine kx_bind (fun p6 hp6 => ?_)
      have f4 : fk [4, 5, 6, 7, 8, 9] I p6.2 := fk.trans f3 (fk.of (by decide) (w_Model_pushes hp6))
      refine kx_if (fun _ => ?_) (fun _ => ?_)
      · refine kx_bind (fun p8 hp8 => ?_)
        have f5 : fk [4, 5, 6, 7, 8, 9] I p8.2 := fk.trans f4 (fk.of (by decide) (w_Model_finds hp8))
        intro h; have h := Option.some.inj h; subst h
        exact f5
      · refine kx_if (fun _ => ?_) (fun _ => ?_)
        · refine kx_grd (fun b10 => ?_)
          intro h; have h := Option.some.inj h; subst h
          exact f4
        · refine kx_grd (fun b11 => ?_)
          intro h; have h := Option.some.inj h; subst h
          exact f4
theorem v_Model_widthBy {I : HI} {x1 : Int32} {x2 : Int32} {r : Int32 × HI} : M_Model_widthBy I x1 x2 = some r → fk [4, 5, 6, 7, 8, 9] I r.2 := by
  unfold M_Model_widthBy
  have f0 : fk [4, 5, 6, 7, 8, 9] I I := fk.refl
  refine kx_bind (fun p1 hp1 => ?_)
  have f1 : fk [4, 5, 6, 7, 8, 9] I p1 := fk.trans f0 (fk.sub (by decide) (v_Model_findYears hp1))
  refine kx_grd (fun b2 => ?_)
  refine kx_lti (fun J3 eJ3 => ?_)
  have f2 : fk [4, 5, 6, 7, 8, 9] I J3 := eJ3 ▸ fk.wr0 (by decide) f1
  refine kx_lti (fun J4 eJ4 => ?_)
  have f3 : fk [4, 5, 6, 7, 8, 9] I J4 := eJ4 ▸ fk.wr0 (by decide) f2
  refine kx_bind (fun p5 hp5 => ?_)
  have f4 : fk [4, 5, 6, 7, 8, 9] I p5.2 := fk.trans f3 (fk.of (by decide) (w_Model_pushes hp5))
  refine kx_if (fun _ => ?_) (fun _ => ?_)
  · intro h; have h := Option.some.inj h; subst h
    exact f4
  · refine kx_bind (fun p7 hp7 => ?_)
    intro h; have h := Option.some.inj h; subst h
    exact f4
theorem v_Model_test {I : HI} {x1 : Int32} {x2 : Int32} {r : Int32 × HI} : M_Model_test I x1 x2 = some r → fk [4, 5, 6, 7, 8, 9] I r.2 := by
  unfold M_Model_test
  have f0 : fk [4, 5, 6, 7, 8, 9] I I := fk.refl
  refine kx_if (fun _ => ?_) (fun _ => ?_)
  · refine kx_bind (fun p2 hp2 => ?_)
    have f1 : fk [4, 5, 6, 7, 8, 9] I p2.2 := fk.trans f0 (fk.of (by decide) (w_Model_finds hp2))
    intro h; have h := Option.some.inj h; subst h
    exact f1
  · refine kx_if (fun _ => ?_) (fun _ => ?_)
    · refine kx_bind (fun p4 hp4 => ?_)
      have f2 : fk [4, 5, 6, 7, 8, 9] I p4.2 := fk.trans f0 (fk.of (by decide) (w_Model_finds hp4))
      intro h; have h := Option.some.inj h; subst h
      exact f2
    · refine kx_bind (fun p5 hp5 => ?_)
      have f3 : fk [4, 5, 6, 7, 8, 9] I p5.2 := fk.trans f0 (fk.sub (by decide) (v_Model_widthBy hp5))
      refine kx_if (fun _ => ?_) (fun _ => ?_)
      · intro h; have h := Option.some.inj h; subst h
        exact f3
      · refine kx_bind (fun p7 hp7 => ?_)
        have f4 : fk [4, 5, 6, 7, 8, 9] I p7.2 := fk.trans f3 (fk.of (by decide) (w_Model_finds hp7))
        intro h; have h := Option.some.inj h; subst h
        exact f4
theorem v_Model_worstOf {I : HI} {x1 : Int32} {r : Int32 × HI} : M_Model_worstOf I x1 = some r → fk [4, 5, 6, 7, 8, 9] I r.2 := by
  unfold M_Model_worstOf
  have f0 : fk [4, 5, 6, 7, 8, 9] I I := fk.refl
  refine kx_bind (fun p1 hp1 => ?_)
  have f1 : fk [4, 5, 6, 7, 8, 9] I p1 := fk.trans f0 (fk.sub (by decide) (v_Model_findYears hp1))
  refine kx_bind (fun p2 hp2 => ?_)
  have f2 : fk [4, 5, 6, 7, 8, 9] I p2.2 := fk.trans f1 (fk.of (by decide) (w_Model_pushes hp2))
  refine kx_grd (fun b3 => ?_)
  refine kx_bind (fun p4 hp4 => ?_)
  have f3 : fk [4, 5, 6, 7, 8, 9] I p4.2 := fk.trans f2 (fk.sub (by decide) (v_Model_widthBy hp4))
  refine kx_bind (fun p5 hp5 => ?_)
  have f4 : fk [4, 5, 6, 7, 8, 9] I p5.2 := fk.trans f3 (fk.sub (by decide) (v_Model_widthBy hp5))
  refine kx_bind (fun p6 hp6 => ?_)
  have f5 : fk [4, 5, 6, 7, 8, 9] I p6.2 := fk.trans f4 (fk.sub (by decide) (v_Model_widthBy hp6))
  refine kx_if (fun _ => ?_) (fun _ => ?_)
  · refine kx_if (fun _ => ?_) (fun _ => ?_)
    · intro h; have h := Option.some.inj h; subst h
      exact f5
    · intro h; have h := Option.some.inj h; subst h
      exact f5
  · refine kx_if (fun _ => ?_) (fun _ => ?_)
    · intro h; have h := Option.some.inj h; subst h
      exact f5
    · intro h; have h := Option.some.inj h; subst h
      exact f5
theorem v_L_Model_next_49 {x1 : Int32} : ∀ {f : Nat} {x2 : Int32} {x3 : Int32} {x4 : Int32} {I : HI} {r : Int32 × Int32 × HI}, L_Model_next_49 x1 f x2 x3 x4 I = some r → fk [4, 5, 6, 7, 8, 9] I r.2.2 := by
  intro f
  induction f with
  | zero => intro x2 x3 x4 I r h; rw [L_Model_next_49] at h; cases h
  | succ f ih =>
    intro x2 x3 x4 I r
    rw [L_Model_next_49]
    have f0 : fk [4, 5, 6, 7, 8, 9] I I := fk.refl
    refine kx_if (fun _ => ?_) (fun _ => ?_)
    · intro h; have h := Option.some.inj h; subst h
      exact f0
    · refine kx_bind (fun p2 hp2 => ?_)
      have f1 : fk [4, 5, 6, 7, 8, 9] I p2.2 := fk.trans f0 (fk.sub (by decide) (v_Model_worstOf hp2))
      refine kx_if (fun _ => ?_) (fun _ => ?_)
      · exact fun h => fk.trans f1 (ih h)
      · refine kx_if (fun _ => ?_) (fun _ => ?_)
        · exact fun h => fk.trans f1 (ih h)
        · exact fun h => fk.trans f1 (ih h)
theorem v_Model_next {I : HI} {x1 : Int32} {r : Int32 × HI} : M_Model_next I x1 = some r → fk [4, 5, 6, 7, 8, 9] I r.2 := by
  unfold M_Model_next
  have f0 : fk [4, 5, 6, 7, 8, 9] I I := fk.refl
  refine kx_if (fun _ => ?_) (fun _ => ?_)
  · refine kx_bind (fun p2 hp2 => ?_)
    have f1 : fk [4, 5, 6, 7, 8, 9] I p2.2 := fk.trans f0 (fk.of (by decide) (w_Model_finds hp2))
    intro h; have h := Option.some.inj h; subst h
    exact f1
  · refine kx_bind (fun p3 hp3 => ?_)
    have f2 : fk [4, 5, 6, 7, 8, 9] I p3 := fk.trans f0 (fk.sub (by decide) (v_Model_findYears hp3))
    refine kx_if (fun _ => ?_) (fun _ => ?_)
    · refine kx_bind (fun p5 hp5 => ?_)
      have f3 : fk [4, 5, 6, 7, 8, 9] I p5.2 := fk.trans f2 (fk.of (by decide) (w_Model_finds hp5))
      intro h; have h := Option.some.inj h; subst h
      exact f3
    · refine kx_bind (fun p6 hp6 => ?_)
      have f4 : fk [4, 5, 6, 7, 8, 9] I p6.2 := fk.trans f2 (fk.of (by decide) (w_Model_pushes hp6))
      refine kx_if (fun _ => ?_) (fun _ => ?_)
      · refine kx_bind (fun p8 hp8 => ?_)
        have f5 : fk [4, 5, 6, 7, 8, 9] I p8.2 := fk.trans f4 (fk.of (by decide) (w_Model_finds hp8))
        intro h; have h := Option.some.inj h; subst h
        exact f5
      · refine kx_bind (fun p9 hp9 => ?_)
        have f6 : fk [4, 5, 6, 7, 8, 9] I p9.2.2 := fk.trans f4 (fk.sub (by decide) (v_L_Model_next_49 hp9))
        refine kx_if (fun _ => ?_) (fun _ => ?_)
        · intro h; have h := Option.some.inj h; subst h
          exact f6
        · intro h; have h := Option.some.inj h; subst h
          exact f6
theorem v_Model_voice {I : HI} {x1 : Int32} {x2 : Int32} {x3 : Int32} {r : Int32 × HI} : M_Model_voice I x1 x2 x3 = some r → fk [21, 22] I r.2 := by
  unfold M_Model_voice
  have f0 : fk [21, 22] I I := fk.refl
  refine kx_if (fun _ => ?_) (fun _ => ?_)
  · refine kx_bind (fun p2 hp2 => ?_)
    have f1 : fk [21, 22] I p2.2 := fk.trans f0 (fk.of (by decide) (w_Model_finds hp2))
    intro h; have h := Option.some.inj h; subst h
    exact f1
  · refine kx_if (fun _ => ?_) (fun _ => ?_)
    · refine kx_bind (fun p4 hp4 => ?_)
      have f2 : fk [21, 22] I p4.2 := fk.trans f0 (fk.of (by decide) (w_Model_finds hp4))
      intro h; have h := Option.some.inj h; subst h
      exact f2
    · refine kx_lti (fun J5 eJ5 => ?_)
      have f3 : fk [21, 22] I J5 := eJ5 ▸ fk.wr (by decide) f0
      refine kx_lti (fun J6 eJ6 => ?_)
      have f4 : fk [21, 22] I J6 := eJ6 ▸ fk.wr (by decide) f3
      refine kx_bind (fun p7 hp7 => ?_)
      refine kx_if (fun _ => ?_) (fun _ => ?_)
      · refine kx_bind (fun p9 hp9 => ?_)
        have f6 : fk [21, 22] I p9.2 := fk.trans f4 (fk.sub (by decide) (v_Model_draws (v_U_draws 4) hp9))
        intro h; have h := Option.some.inj h; subst h
        exact f6
      · refine kx_if (fun _ => ?_) (fun _ => ?_)
        · refine kx_bind (fun p11 hp11 => ?_)
          have f7 : fk [21, 22] I p11.2 := fk.trans f4 (fk.sub (by decide) (v_Model_dries (v_U_dries 4) hp11))
          intro h; have h := Option.some.inj h; subst h
          exact f7
        · refine kx_if (fun _ => ?_) (fun _ => ?_)
          · refine kx_bind (fun p13 hp13 => ?_)
            have f8 : fk [21, 22] I p13.2 := fk.trans f4 (fk.sub (by decide) (v_Model_peels (v_U_peels 4) hp13))
            intro h; have h := Option.some.inj h; subst h
            exact f8
          · refine kx_bind (fun p14 hp14 => ?_)
            have f9 : fk [21, 22] I p14.2 := fk.trans f4 (fk.sub (by decide) (v_Model_tells (v_U_tells 4) hp14))
            intro h; have h := Option.some.inj h; subst h
            exact f9
theorem v_Model_isRight {I : HI} {x1 : Int32} {x2 : Int32} {r : Int32 × HI} : M_Model_isRight I x1 x2 = some r → fk [4, 5, 6, 7, 8, 9] I r.2 := by
  unfold M_Model_isRight
  have f0 : fk [4, 5, 6, 7, 8, 9] I I := fk.refl
  refine kx_grd (fun b1 => ?_)
  refine kx_bind (fun p2 hp2 => ?_)
  have f1 : fk [4, 5, 6, 7, 8, 9] I p2.2 := fk.trans f0 (fk.sub (by decide) (v_Model_earlyOf hp2))
  refine kx_bind (fun p3 hp3 => ?_)
  have f2 : fk [4, 5, 6, 7, 8, 9] I p3.2 := fk.trans f1 (fk.sub (by decide) (v_Model_lateOf hp3))
  refine kx_if (fun _ => ?_) (fun _ => ?_)
  · intro h; have h := Option.some.inj h; subst h
    exact f2
  · refine kx_bind (fun p5 hp5 => ?_)
    refine kx_if (fun _ => ?_) (fun _ => ?_)
    · intro h; have h := Option.some.inj h; subst h
      exact f2
    · intro h; have h := Option.some.inj h; subst h
      exact f2
theorem v_L_Model_judge_18 {x1 : Int32} : ∀ {f : Nat} {x3 : Int32} {I : HI} {r : Int32 × HI}, L_Model_judge_18 x1 f x3 I = some r → fk [4, 5, 6, 7, 8, 9] I r.2 := by
  intro f
  induction f with
  | zero => intro x3 I r h; rw [L_Model_judge_18] at h; cases h
  | succ f ih =>
    intro x3 I r
    rw [L_Model_judge_18]
    have f0 : fk [4, 5, 6, 7, 8, 9] I I := fk.refl
    refine kx_if (fun _ => ?_) (fun _ => ?_)
    · intro h; have h := Option.some.inj h; subst h
      exact f0
    · refine kx_grd (fun b2 => ?_)
      refine kx_if (fun _ => ?_) (fun _ => ?_)
      · intro h; have h := Option.some.inj h; subst h
        exact f0
      · refine kx_bind (fun p4 hp4 => ?_)
        have f1 : fk [4, 5, 6, 7, 8, 9] I p4.2 := fk.trans f0 (fk.sub (by decide) (v_Model_isRight hp4))
        refine kx_if (fun _ => ?_) (fun _ => ?_)
        · intro h; have h := Option.some.inj h; subst h
          exact f1
        · exact fun h => fk.trans f1 (ih h)
theorem v_Model_judge {I : HI} {x1 : Int32} {r : Int32 × HI} : M_Model_judge I x1 = some r → fk [4, 5, 6, 7, 8, 9] I r.2 := by
  unfold M_Model_judge
  have f0 : fk [4, 5, 6, 7, 8, 9] I I := fk.refl
  refine kx_bind (fun p1 hp1 => ?_)
  refine kx_if (fun _ => ?_) (fun _ => ?_)
  · refine kx_bind (fun p3 hp3 => ?_)
    have f2 : fk [4, 5, 6, 7, 8, 9] I p3.2 := fk.trans f0 (fk.sub (by decide) (v_L_Model_judge_18 hp3))
    intro h; have h := Option.some.inj h; subst h
    exact f2
  · refine kx_bind (fun p4 hp4 => ?_)
    have f3 : fk [4, 5, 6, 7, 8, 9] I p4.2 := fk.trans f0 (fk.of (by decide) (w_Model_finds hp4))
    intro h; have h := Option.some.inj h; subst h
    exact f3
theorem v_Model_image {I : HI} {r : Int32 × HI} : M_Model_image I = some r → fk [2] I r.2 := by
  unfold M_Model_image
  have f0 : fk [2] I I := fk.refl
  refine kx_bind (fun p1 hp1 => ?_)
  have f1 : fk [2] I p1 := fk.trans f0 (fk.of (by decide) (w_Model_copies hp1))
  refine kx_lti (fun J2 eJ2 => ?_)
  have f2 : fk [2] I J2 := eJ2 ▸ fk.wr (by decide) f1
  intro h; have h := Option.some.inj h; subst h
  exact f2
