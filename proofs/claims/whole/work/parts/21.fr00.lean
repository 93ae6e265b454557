theorem w_Model_wrong {I : HI} {r : Int32 × HI} : M_Model_wrong I = r → fr [88] I r.2 := by
  unfold M_Model_wrong
  have f0 : fr [88] I I := fr.refl
  refine kx_if (fun _ => ?_) (fun _ => ?_)
  · refine kx_lti (fun J2 eJ2 => ?_)
    have f1 : fr [88] I J2 := eJ2 ▸ fr.wr (by decide) f0
    rintro rfl
    exact f1
  · refine kx_lti (fun J3 eJ3 => ?_)
    have f2 : fr [88] I J3 := eJ3 ▸ fr.wr (by decide) f0
    rintro rfl
    exact f2
theorem w_L_Model_product_5 {u : HI → Option (Int32 × HI)} (hwu : ∀ {I : HI} {r : Int32 × HI}, u  I = some r → fr [88] I r.2) : ∀ {f : Nat} {x1 : Int32} {I : HI} {r : Int32 × HI}, L_Model_product_5 u f x1 I = some r → fr [88] I r.2 := by
  intro f
  induction f with
  | zero => intro x1 I r h; rw [L_Model_product_5] at h; cases h
  | succ f ih =>
    intro x1 I r
    rw [L_Model_product_5]
    have f0 : fr [88] I I := fr.refl
    refine kx_bind (fun p1 hp1 => ?_)
    refine kx_if (fun _ => ?_) (fun _ => ?_)
    · refine kx_bind (fun p3 hp3 => ?_)
      refine kx_lti (fun J4 eJ4 => ?_)
      have f3 : fr [88] I J4 := eJ4 ▸ fr.wr (by decide) f0
      refine kx_bind (fun p5 hp5 => ?_)
      have f4 : fr [88] I p5.2 := fr.trans f3 (fr.sub (by decide) (hwu hp5))
      refine kx_if (fun _ => ?_) (fun _ => ?_)
      · exact fun h => fr.trans f4 (ih h)
      · refine kx_if (fun _ => ?_) (fun _ => ?_)
        · exact fun h => fr.trans f4 (ih h)
        · refine kx_if (fun _ => ?_) (fun _ => ?_)
          · refine kx_grd (fun _ => ?_)
            exact fun h => fr.trans f4 (ih h)
          · refine kx_grd (fun _ => ?_)
            exact fun h => fr.trans f4 (ih h)
    · refine kx_bind (fun p11 hp11 => ?_)
      refine kx_if (fun _ => ?_) (fun _ => ?_)
      · refine kx_bind (fun p13 hp13 => ?_)
        refine kx_lti (fun J14 eJ14 => ?_)
        have f7 : fr [88] I J14 := eJ14 ▸ fr.wr (by decide) f0
        refine kx_bind (fun p15 hp15 => ?_)
        have f8 : fr [88] I p15.2 := fr.trans f7 (fr.sub (by decide) (hwu hp15))
        refine kx_if (fun _ => ?_) (fun _ => ?_)
        · exact fun h => fr.trans f8 (ih h)
        · refine kx_if (fun _ => ?_) (fun _ => ?_)
          · exact fun h => fr.trans f8 (ih h)
          · refine kx_if (fun _ => ?_) (fun _ => ?_)
            · refine kx_grd (fun _ => ?_)
              exact fun h => fr.trans f8 (ih h)
            · refine kx_grd (fun _ => ?_)
              exact fun h => fr.trans f8 (ih h)
      · refine kx_bind (fun p21 hp21 => ?_)
        refine kx_if (fun _ => ?_) (fun _ => ?_)
        · refine kx_bind (fun p23 hp23 => ?_)
          refine kx_lti (fun J24 eJ24 => ?_)
          have f11 : fr [88] I J24 := eJ24 ▸ fr.wr (by decide) f0
          refine kx_bind (fun p25 hp25 => ?_)
          have f12 : fr [88] I p25.2 := fr.trans f11 (fr.sub (by decide) (hwu hp25))
          refine kx_if (fun _ => ?_) (fun _ => ?_)
          · exact fun h => fr.trans f12 (ih h)
          · refine kx_if (fun _ => ?_) (fun _ => ?_)
            · exact fun h => fr.trans f12 (ih h)
            · refine kx_if (fun _ => ?_) (fun _ => ?_)
              · refine kx_grd (fun _ => ?_)
                exact fun h => fr.trans f12 (ih h)
              · refine kx_grd (fun _ => ?_)
                exact fun h => fr.trans f12 (ih h)
        · intro h; have h := Option.some.inj h; subst h
          exact f0
theorem w_Model_product {u : HI → Option (Int32 × HI)} {I : HI} (hwu : ∀ {I : HI} {r : Int32 × HI}, u  I = some r → fr [88] I r.2) {r : Int32 × HI} : M_Model_product u I = some r → fr [88] I r.2 := by
  unfold M_Model_product
  have f0 : fr [88] I I := fr.refl
  refine kx_bind (fun p1 hp1 => ?_)
  have f1 : fr [88] I p1.2 := fr.trans f0 (fr.sub (by decide) (hwu hp1))
  refine kx_bind (fun p2 hp2 => ?_)
  have f2 : fr [88] I p2.2 := fr.trans f1 (fr.sub (by decide) (w_L_Model_product_5 hwu hp2))
  intro h; have h := Option.some.inj h; subst h
  exact f2
theorem w_L_Model_sum_5 {u : HI → Option (Int32 × HI)} (hwu : ∀ {I : HI} {r : Int32 × HI}, u  I = some r → fr [88] I r.2) : ∀ {f : Nat} {x1 : Int32} {I : HI} {r : Int32 × HI}, L_Model_sum_5 u f x1 I = some r → fr [88] I r.2 := by
  intro f
  induction f with
  | zero => intro x1 I r h; rw [L_Model_sum_5] at h; cases h
  | succ f ih =>
    intro x1 I r
    rw [L_Model_sum_5]
    have f0 : fr [88] I I := fr.refl
    refine kx_bind (fun p1 hp1 => ?_)
    refine kx_if (fun _ => ?_) (fun _ => ?_)
    · refine kx_bind (fun p3 hp3 => ?_)
      refine kx_lti (fun J4 eJ4 => ?_)
      have f3 : fr [88] I J4 := eJ4 ▸ fr.wr (by decide) f0
      refine kx_bind (fun p5 hp5 => ?_)
      have f4 : fr [88] I p5.2 := fr.trans f3 (fr.sub (by decide) (w_Model_product hwu hp5))
      refine kx_if (fun _ => ?_) (fun _ => ?_)
      · exact fun h => fr.trans f4 (ih h)
      · exact fun h => fr.trans f4 (ih h)
    · refine kx_bind (fun p7 hp7 => ?_)
      refine kx_if (fun _ => ?_) (fun _ => ?_)
      · refine kx_bind (fun p9 hp9 => ?_)
        refine kx_lti (fun J10 eJ10 => ?_)
        have f7 : fr [88] I J10 := eJ10 ▸ fr.wr (by decide) f0
        refine kx_bind (fun p11 hp11 => ?_)
        have f8 : fr [88] I p11.2 := fr.trans f7 (fr.sub (by decide) (w_Model_product hwu hp11))
        refine kx_if (fun _ => ?_) (fun _ => ?_)
        · exact fun h => fr.trans f8 (ih h)
        · exact fun h => fr.trans f8 (ih h)
      · intro h; have h := Option.some.inj h; subst h
        exact f0
theorem w_Model_sum {u : HI → Option (Int32 × HI)} {I : HI} (hwu : ∀ {I : HI} {r : Int32 × HI}, u  I = some r → fr [88] I r.2) {r : Int32 × HI} : M_Model_sum u I = some r → fr [88] I r.2 := by
  unfold M_Model_sum
  have f0 : fr [88] I I := fr.refl
  refine kx_bind (fun p1 hp1 => ?_)
  have f1 : fr [88] I p1.2 := fr.trans f0 (fr.sub (by decide) (w_Model_product hwu hp1))
  refine kx_bind (fun p2 hp2 => ?_)
  have f2 : fr [88] I p2.2 := fr.trans f1 (fr.sub (by decide) (w_L_Model_sum_5 hwu hp2))
  intro h; have h := Option.some.inj h; subst h
  exact f2
theorem w_Model_compared {u : HI → Option (Int32 × HI)} {I : HI} (hwu : ∀ {I : HI} {r : Int32 × HI}, u  I = some r → fr [88] I r.2) {r : Int32 × HI} : M_Model_compared u I = some r → fr [88] I r.2 := by
  unfold M_Model_compared
  have f0 : fr [88] I I := fr.refl
  refine kx_bind (fun p1 hp1 => ?_)
  have f1 : fr [88] I p1.2 := fr.trans f0 (fr.sub (by decide) (w_Model_sum hwu hp1))
  refine kx_bind (fun p2 hp2 => ?_)
  refine kx_if (fun _ => ?_) (fun _ => ?_)
  · refine kx_lti (fun J4 eJ4 => ?_)
    have f3 : fr [88] I J4 := eJ4 ▸ fr.wr (by decide) f1
    refine kx_bind (fun p5 hp5 => ?_)
    have f4 : fr [88] I p5.2 := fr.trans f3 (fr.sub (by decide) (w_Model_sum hwu hp5))
    refine kx_if (fun _ => ?_) (fun _ => ?_)
    · intro h; have h := Option.some.inj h; subst h
      exact f4
    · intro h; have h := Option.some.inj h; subst h
      exact f4
  · refine kx_if (fun _ => ?_) (fun _ => ?_)
    · refine kx_lti (fun J8 eJ8 => ?_)
      have f5 : fr [88] I J8 := eJ8 ▸ fr.wr (by decide) f1
      refine kx_bind (fun p9 hp9 => ?_)
      have f6 : fr [88] I p9.2 := fr.trans f5 (fr.sub (by decide) (w_Model_sum hwu hp9))
      refine kx_if (fun _ => ?_) (fun _ => ?_)
      · intro h; have h := Option.some.inj h; subst h
        exact f6
      · intro h; have h := Option.some.inj h; subst h
        exact f6
    · refine kx_if (fun _ => ?_) (fun _ => ?_)
      · refine kx_lti (fun J12 eJ12 => ?_)
        have f7 : fr [88] I J12 := eJ12 ▸ fr.wr (by decide) f1
        refine kx_bind (fun p13 hp13 => ?_)
        have f8 : fr [88] I p13.2 := fr.trans f7 (fr.sub (by decide) (w_Model_sum hwu hp13))
        refine kx_if (fun _ => ?_) (fun _ => ?_)
        · intro h; have h := Option.some.inj h; subst h
          exact f8
        · intro h; have h := Option.some.inj h; subst h
          exact f8
      · intro h; have h := Option.some.inj h; subst h
        exact f1
theorem w_Model_takes {I : HI} {x1 : Int32} {r : Int32 × HI} : M_Model_takes I x1 = some r → fr [88] I r.2 := by
  unfold M_Model_takes
  have f0 : fr [88] I I := fr.refl
  refine kx_bind (fun p1 hp1 => ?_)
  refine kx_if (fun _ => ?_) (fun _ => ?_)
  · refine kx_lti (fun J3 eJ3 => ?_)
    have f2 : fr [88] I J3 := eJ3 ▸ fr.wr (by decide) f0
    intro h; have h := Option.some.inj h; subst h
    exact f2
  · intro h; have h := Option.some.inj h; subst h
    exact f0
theorem w_L_Model_both_5 {u : HI → Option (Int32 × HI)} (hwu : ∀ {I : HI} {r : Int32 × HI}, u  I = some r → fr [88] I r.2) : ∀ {f : Nat} {x1 : Int32} {I : HI} {r : Int32 × HI}, L_Model_both_5 u f x1 I = some r → fr [88] I r.2 := by
  intro f
  induction f with
  | zero => intro x1 I r h; rw [L_Model_both_5] at h; cases h
  | succ f ih =>
    intro x1 I r
    rw [L_Model_both_5]
    have f0 : fr [88] I I := fr.refl
    refine kx_bind (fun p1 hp1 => ?_)
    have f1 : fr [88] I p1.2 := fr.trans f0 (fr.sub (by decide) (w_Model_takes hp1))
    refine kx_if (fun _ => ?_) (fun _ => ?_)
    · intro h; have h := Option.some.inj h; subst h
      exact f1
    · refine kx_bind (fun p3 hp3 => ?_)
      have f2 : fr [88] I p3.2 := fr.trans f1 (fr.sub (by decide) (w_Model_compared hwu hp3))
      refine kx_if (fun _ => ?_) (fun _ => ?_)
      · exact fun h => fr.trans f2 (ih h)
      · refine kx_if (fun _ => ?_) (fun _ => ?_)
        · exact fun h => fr.trans f2 (ih h)
        · exact fun h => fr.trans f2 (ih h)
theorem w_Model_both {u : HI → Option (Int32 × HI)} {I : HI} (hwu : ∀ {I : HI} {r : Int32 × HI}, u  I = some r → fr [88] I r.2) {r : Int32 × HI} : M_Model_both u I = some r → fr [88] I r.2 := by
  unfold M_Model_both
  have f0 : fr [88] I I := fr.refl
  refine kx_bind (fun p1 hp1 => ?_)
  have f1 : fr [88] I p1.2 := fr.trans f0 (fr.sub (by decide) (w_Model_compared hwu hp1))
  refine kx_bind (fun p2 hp2 => ?_)
  have f2 : fr [88] I p2.2 := fr.trans f1 (fr.sub (by decide) (w_L_Model_both_5 hwu hp2))
  intro h; have h := Option.some.inj h; subst h
  exact f2
theorem w_L_Model_either_5 {u : HI → Option (Int32 × HI)} (hwu : ∀ {I : HI} {r : Int32 × HI}, u  I = some r → fr [88] I r.2) : ∀ {f : Nat} {x1 : Int32} {I : HI} {r : Int32 × HI}, L_Model_either_5 u f x1 I = some r → fr [88] I r.2 := by
  intro f
  induction f with
  | zero => intro x1 I r h; rw [L_Model_either_5] at h; cases h
  | succ f ih =>
    intro x1 I r
    rw [L_Model_either_5]
    have f0 : fr [88] I I := fr.refl
    refine kx_bind (fun p1 hp1 => ?_)
    have f1 : fr [88] I p1.2 := fr.trans f0 (fr.sub (by decide) (w_Model_takes hp1))
    refine kx_if (fun _ => ?_) (fun _ => ?_)
    · intro h; have h := Option.some.inj h; subst h
      exact f1
    · refine kx_bind (fun p3 hp3 => ?_)
      have f2 : fr [88] I p3.2 := fr.trans f1 (fr.sub (by decide) (w_Model_both hwu hp3))
      refine kx_if (fun _ => ?_) (fun _ => ?_)
      · refine kx_if (fun _ => ?_) (fun _ => ?_)
        · exact fun h => fr.trans f2 (ih h)
        · exact fun h => fr.trans f2 (ih h)
      · exact fun h => fr.trans f2 (ih h)
theorem w_Model_either {u : HI → Option (Int32 × HI)} {I : HI} (hwu : ∀ {I : HI} {r : Int32 × HI}, u  I = some r → fr [88] I r.2) {r : Int32 × HI} : M_Model_either u I = some r → fr [88] I r.2 := by
  unfold M_Model_either
  have f0 : fr [88] I I := fr.refl
  refine kx_bind (fun p1 hp1 => ?_)
  have f1 : fr [88] I p1.2 := fr.trans f0 (fr.sub (by decide) (w_Model_both hwu hp1))
  refine kx_bind (fun p2 hp2 => ?_)
  have f2 : fr [88] I p2.2 := fr.trans f1 (fr.sub (by decide) (w_L_Model_either_5 hwu hp2))
  intro h; have h := Option.some.inj h; subst h
  exact f2
theorem w_L_Model_unit_150 {u : HI → Option (Int32 × HI)} (hwu : ∀ {I : HI} {r : Int32 × HI}, u  I = some r → fr [88] I r.2) : ∀ {f : Nat} {x3 : Int32} {x4 : Int32} {I : HI} {r : Int32 × Int32 × HI}, L_Model_unit_150 u f x3 x4 I = some r → fr [88] I r.2.2 := by
  intro f
  induction f with
  | zero => intro x3 x4 I r h; rw [L_Model_unit_150] at h; cases h
  | succ f ih =>
    intro x3 x4 I r
    rw [L_Model_unit_150]
    have f0 : fr [88] I I := fr.refl
    refine kx_if (fun _ => ?_) (fun _ => ?_)
    · intro h; have h := Option.some.inj h; subst h
      exact f0
    · refine kx_bind (fun p2 hp2 => ?_)
      refine kx_if (fun _ => ?_) (fun _ => ?_)
      · intro h; have h := Option.some.inj h; subst h
        exact f0
      · refine kx_bind (fun p4 hp4 => ?_)
        refine kx_lti (fun J5 eJ5 => ?_)
        have f3 : fr [88] I J5 := eJ5 ▸ fr.wr (by decide) f0
        exact fun h => fr.trans f3 (ih h)
theorem w_Model_unit {u : HI → Option (Int32 × HI)} {I : HI} (hwu : ∀ {I : HI} {r : Int32 × HI}, u  I = some r → fr [88] I r.2) {r : Int32 × HI} : M_Model_unit u I = some r → fr [88] I r.2 := by
  unfold M_Model_unit
  have f0 : fr [88] I I := fr.refl
  refine kx_bind (fun p1 hp1 => ?_)
  refine kx_if (fun _ => ?_) (fun _ => ?_)
  · refine kx_if (fun _ => ?_) (fun _ => ?_)
    · refine kx_lti (fun p4 hp4 => ?_)
      have f2 : fr [88] I p4.2 := fr.trans f0 (fr.sub (by decide) (w_Model_wrong hp4))
      intro h; have h := Option.some.inj h; subst h
      exact f2
    · refine kx_lti (fun J5 eJ5 => ?_)
      have f3 : fr [88] I J5 := eJ5 ▸ fr.wr (by decide) f0
      refine kx_lti (fun J6 eJ6 => ?_)
      have f4 : fr [88] I J6 := eJ6 ▸ fr.wr (by decide) f3
      refine kx_if (fun _ => ?_) (fun _ => ?_)
      · refine kx_bind (fun p8 hp8 => ?_)
        have f5 : fr [88] I p8.2 := fr.trans f4 (fr.sub (by decide) (w_Model_either hwu hp8))
        refine kx_bind (fun p9 hp9 => ?_)
        have f6 : fr [88] I p9.2 := fr.trans f5 (fr.sub (by decide) (w_Model_takes hp9))
        refine kx_if (fun _ => ?_) (fun _ => ?_)
        · refine kx_lti (fun p11 hp11 => ?_)
          have f7 : fr [88] I p11.2 := fr.trans f6 (fr.sub (by decide) (w_Model_wrong hp11))
          intro h; have h := Option.some.inj h; subst h
          exact f7
        · refine kx_lti (fun J12 eJ12 => ?_)
          have f8 : fr [88] I J12 := eJ12 ▸ fr.wr (by decide) f6
          intro h; have h := Option.some.inj h; subst h
          exact f8
      · refine kx_bind (fun p13 hp13 => ?_)
        have f9 : fr [88] I p13.2 := fr.trans f4 (fr.sub (by decide) (hwu hp13))
        refine kx_lti (fun J14 eJ14 => ?_)
        have f10 : fr [88] I J14 := eJ14 ▸ fr.wr (by decide) f9
        refine kx_if (fun _ => ?_) (fun _ => ?_)
        · intro h; have h := Option.some.inj h; subst h
          exact f10
        · intro h; have h := Option.some.inj h; subst h
          exact f10
  · refine kx_if (fun _ => ?_) (fun _ => ?_)
    · refine kx_if (fun _ => ?_) (fun _ => ?_)
      · refine kx_lti (fun p18 hp18 => ?_)
        have f11 : fr [88] I p18.2 := fr.trans f0 (fr.sub (by decide) (w_Model_wrong hp18))
        intro h; have h := Option.some.inj h; subst h
        exact f11
      · refine kx_lti (fun J19 eJ19 => ?_)
        have f12 : fr [88] I J19 := eJ19 ▸ fr.wr (by decide) f0
        refine kx_lti (fun J20 eJ20 => ?_)
        have f13 : fr [88] I J20 := eJ20 ▸ fr.wr (by decide) f12
        refine kx_bind (fun p21 hp21 => ?_)
        have f14 : fr [88] I p21.2 := fr.trans f13 (fr.sub (by decide) (w_Model_either hwu hp21))
        refine kx_bind (fun p22 hp22 => ?_)
        have f15 : fr [88] I p22.2 := fr.trans f14 (fr.sub (by decide) (w_Model_takes hp22))
        refine kx_if (fun _ => ?_) (fun _ => ?_)
        · refine kx_lti (fun p24 hp24 => ?_)
          have f16 : fr [88] I p24.2 := fr.trans f15 (fr.sub (by decide) (w_Model_wrong hp24))
          intro h; have h := Option.some.inj h; subst h
          exact f16
        · refine kx_lti (fun J25 eJ25 => ?_)
          have f17 : fr [88] I J25 := eJ25 ▸ fr.wr (by decide) f15
          intro h; have h := Option.some.inj h; subst h
          exact f17
    · refine kx_if (fun _ => ?_) (fun _ => ?_)
      · refine kx_bind (fun p27 hp27 => ?_)
        have f18 : fr [88] I p27.2.2 := fr.trans f0 (fr.sub (by decide) (w_L_Model_unit_150 hwu hp27))
        refine kx_if (fun _ => ?_) (fun _ => ?_)
        · refine kx_lti (fun p29 hp29 => ?_)
          have f19 : fr [88] I p29.2 := fr.trans f18 (fr.sub (by decide) (w_Model_wrong hp29))
          intro h; have h := Option.some.inj h; subst h
          exact f19
        · intro h; have h := Option.some.inj h; subst h
          exact f18
      · refine kx_lti (fun J30 eJ30 => ?_)
        have f20 : fr [88] I J30 := eJ30 ▸ fr.wr (by decide) f0
        refine kx_grd (fun b31 => ?_)
        intro h; have h := Option.some.inj h; subst h
        exact f20
theorem w_U_unit : ∀ (f : Nat) {I : HI} {r : Int32 × HI}, U_unit f I = some r → fr [88] I r.2 := by
  intro f
  induction f with
  | zero => intro I r h; rw [U_unit] at h; cases h
  | succ f ih =>
    intro I r h
    rw [U_unit] at h
    exact fr.sub (by decide) (w_Model_unit ih h)
theorem w_Model_ran {I : HI} {x1 : Int32} {r : HI} : M_Model_ran I x1 = some r → fr [88, 102] I r := by
  unfold M_Model_ran
  have f0 : fr [88, 102] I I := fr.refl
  refine kx_if (fun _ => ?_) (fun _ => ?_)
  · intro h; have h := Option.some.inj h; subst h
    exact f0
  · refine kx_grd (fun b2 => ?_)
    refine kx_lti (fun J3 eJ3 => ?_)
    have f1 : fr [88, 102] I J3 := eJ3 ▸ fr.wr (by decide) f0
    refine kx_lti (fun J4 eJ4 => ?_)
    have f2 : fr [88, 102] I J4 := eJ4 ▸ fr.wr (by decide) f1
    intro h; have h := Option.some.inj h; subst h
    exact f2
theorem w_Model_draws {udraws : Int32 → Int32 → HI → Option (Int32 × HI)} {I : HI} {x1 : Int32} {x2 : Int32} (hwudraws : ∀ {a0 a1 : Int32} {I : HI} {r : Int32 × HI}, udraws a0 a1 I = some r → fr [88, 102] I r.2) {r : Int32 × HI} : M_Model_draws udraws I x1 x2 = some r → fr [88, 102] I r.2 := by
  unfold M_Model_draws
  have f0 : fr [88, 102] I I := fr.refl
  refine kx_if (fun _ => ?_) (fun _ => ?_)
  · refine kx_bind (fun p2 hp2 => ?_)
    have f1 : fr [88, 102] I p2 := fr.trans f0 (fr.sub (by decide) (w_Model_ran hp2))
    intro h; have h := Option.some.inj h; subst h
    exact f1
  · refine kx_if (fun _ => ?_) (fun _ => ?_)
    · refine kx_bind (fun p4 hp4 => ?_)
      have f2 : fr [88, 102] I p4 := fr.trans f0 (fr.sub (by decide) (w_Model_ran hp4))
      refine kx_bind (fun p5 hp5 => ?_)
      have f3 : fr [88, 102] I p5.2 := fr.trans f2 (fr.sub (by decide) (hwudraws hp5))
      intro h; have h := Option.some.inj h; subst h
      exact f3
    · refine kx_bind (fun p6 hp6 => ?_)
      have f4 : fr [88, 102] I p6.2 := fr.trans f0 (fr.sub (by decide) (hwudraws hp6))
      intro h; have h := Option.some.inj h; subst h
      exact f4
theorem w_U_draws : ∀ (f : Nat) {a b : Int32} {I : HI} {r : Int32 × HI}, U_draws f a b I = some r → fr [88, 102] I r.2 := by
  intro f
  induction f with
  | zero => intro a b I r h; rw [U_draws] at h; cases h
  | succ f ih =>
    intro a b I r h
    rw [U_draws] at h
    exact fr.sub (by decide) (w_Model_draws ih h)
theorem w_Model_peels {upeels : Int32 → Int32 → HI → Option (Int32 × HI)} {I : HI} {x1 : Int32} {x2 : Int32} (hwupeels : ∀ {a0 a1 : Int32} {I : HI} {r : Int32 × HI}, upeels a0 a1 I = some r → fr [88, 102] I r.2) {r : Int32 × HI} : M_Model_peels upeels I x1 x2 = some r → fr [88, 102] I r.2 := by
  unfold M_Model_peels
  have f0 : fr [88, 102] I I := fr.refl
  refine kx_if (fun _ => ?_) (fun _ => ?_)
  · refine kx_bind (fun p2 hp2 => ?_)
    have f1 : fr [88, 102] I p2 := fr.trans f0 (fr.sub (by decide) (w_Model_ran hp2))
    refine kx_bind (fun p3 hp3 => ?_)
    intro h; have h := Option.some.inj h; subst h
    exact f1
  · refine kx_if (fun _ => ?_) (fun _ => ?_)
    · refine kx_bind (fun p5 hp5 => ?_)
      have f3 : fr [88, 102] I p5 := fr.trans f0 (fr.sub (by decide) (w_Model_ran hp5))
      refine kx_bind (fun p6 hp6 => ?_)
      have f4 : fr [88, 102] I p6.2 := fr.trans f3 (fr.sub (by decide) (hwupeels hp6))
      intro h; have h := Option.some.inj h; subst h
      exact f4
    · refine kx_if (fun _ => ?_) (fun _ => ?_)
      · refine kx_bind (fun p8 hp8 => ?_)
        have f5 : fr [88, 102] I p8 := fr.trans f0 (fr.sub (by decide) (w_Model_ran hp8))
        refine kx_bind (fun p9 hp9 => ?_)
        have f6 : fr [88, 102] I p9.2 := fr.trans f5 (fr.sub (by decide) (hwupeels hp9))
        intro h; have h := Option.some.inj h; subst h
        exact f6
      · refine kx_bind (fun p10 hp10 => ?_)
        have f7 : fr [88, 102] I p10.2 := fr.trans f0 (fr.sub (by decide) (hwupeels hp10))
        intro h; have h := Option.some.inj h; subst h
        exact f7
theorem w_U_peels : ∀ (f : Nat) {a b : Int32} {I : HI} {r : Int32 × HI}, U_peels f a b I = some r → fr [88, 102] I r.2 := by
  intro f
  induction f with
  | zero => intro a b I r h; rw [U_peels] at h; cases h
  | succ f ih =>
    intro a b I r h
    rw [U_peels] at h
    exact fr.sub (by decide) (w_Model_peels ih h)
theorem w_Model_dries {udries : Int32 → Int32 → HI → Option (Int32 × HI)} {I : HI} {x1 : Int32} {x2 : Int32} (hwudries : ∀ {a0 a1 : Int32} {I : HI} {r : Int32 × HI}, udries a0 a1 I = some r → fr [88, 102] I r.2) {r : Int32 × HI} : M_Model_dries udries I x1 x2 = some r → fr [88, 102] I r.2 := by
  unfold M_Model_dries
  have f0 : fr [88, 102] I I := fr.refl
  refine kx_if (fun _ => ?_) (fun _ => ?_)
  · refine kx_bind (fun p2 hp2 => ?_)
    have f1 : fr [88, 102] I p2 := fr.trans f0 (fr.sub (by decide) (w_Model_ran hp2))
    refine kx_bind (fun p3 hp3 => ?_)
    refine kx_bind (fun p4 hp4 => ?_)
    have f3 : fr [88, 102] I p4.2 := fr.trans f1 (fr.sub (by decide) (w_Model_draws (w_U_draws 4) hp4))
    intro h; have h := Option.some.inj h; subst h
    exact f3
  · refine kx_if (fun _ => ?_) (fun _ => ?_)
    · refine kx_bind (fun p6 hp6 => ?_)
      have f4 : fr [88, 102] I p6 := fr.trans f0 (fr.sub (by decide) (w_Model_ran hp6))
      refine kx_bind (fun p7 hp7 => ?_)
      have f5 : fr [88, 102] I p7.2 := fr.trans f4 (fr.sub (by decide) (hwudries hp7))
      refine kx_bind (fun p8 hp8 => ?_)
      refine kx_bind (fun p9 hp9 => ?_)
      have f7 : fr [88, 102] I p9.2 := fr.trans f5 (fr.sub (by decide) (w_Model_peels (w_U_peels 4) hp9))
      intro h; have h := Option.some.inj h; subst h
      exact f7
    · refine kx_if (fun _ => ?_) (fun _ => ?_)
      · refine kx_bind (fun p11 hp11 => ?_)
        have f8 : fr [88, 102] I p11.2 := fr.trans f0 (fr.sub (by decide) (hwudries hp11))
        intro h; have h := Option.some.inj h; subst h
        exact f8
      · refine kx_if (fun _ => ?_) (fun _ => ?_)
        · refine kx_bind (fun p13 hp13 => ?_)
          have f9 : fr [88, 102] I p13.2 := fr.trans f0 (fr.sub (by decide) (hwudries hp13))
          intro h; have h := Option.some.inj h; subst h
          exact f9
        · refine kx_if (fun _ => ?_) (fun _ => ?_)
          · refine kx_bind (fun p15 hp15 => ?_)
            have f10 : fr [88, 102] I p15 := fr.trans f0 (fr.sub (by decide) (w_Model_ran hp15))
            refine kx_bind (fun p16 hp16 => ?_)
            have f11 : fr [88, 102] I p16.2 := fr.trans f10 (fr.sub (by decide) (hwudries hp16))
            intro h; have h := Option.some.inj h; subst h
            exact f11
          · refine kx_bind (fun p17 hp17 => ?_)
            have f12 : fr [88, 102] I p17.2 := fr.trans f0 (fr.sub (by decide) (hwudries hp17))
            intro h; have h := Option.some.inj h; subst h
            exact f12
theorem w_U_dries : ∀ (f : Nat) {a b : Int32} {I : HI} {r : Int32 × HI}, U_dries f a b I = some r → fr [88, 102] I r.2 := by
  intro f
  induction f with
  | zero => intro a b I r h; rw [U_dries] at h; cases h
  | succ f ih =>
    intro a b I r h
    rw [U_dries] at h
    exact fr.sub (by decide) (w_Model_dries ih h)
theorem w_Model_tells {utells : Int32 → Int32 → HI → Option (Int32 × HI)} {I : HI} {x1 : Int32} {x2 : Int32} (hwutells : ∀ {a0 a1 : Int32} {I : HI} {r : Int32 × HI}, utells a0 a1 I = some r → fr [88, 102] I r.2) {r : Int32 × HI} : M_Model_tells utells I x1 x2 = some r → fr [88, 102] I r.2 := by
  unfold M_Model_tells
  have f0 : fr [88, 102] I I := fr.refl
  refine kx_if (fun _ => ?_) (fun _ => ?_)
  · refine kx_bind (fun p2 hp2 => ?_)
    have f1 : fr [88, 102] I p2 := fr.trans f0 (fr.sub (by decide) (w_Model_ran hp2))
    refine kx_bind (fun p3 hp3 => ?_)
    refine kx_bind (fun p4 hp4 => ?_)
    have f3 : fr [88, 102] I p4.2 := fr.trans f1 (fr.sub (by decide) (w_Model_dries (w_U_dries 4) hp4))
    refine kx_bind (fun p5 hp5 => ?_)
    refine kx_bind (fun p6 hp6 => ?_)
    have f5 : fr [88, 102] I p6.2 := fr.trans f3 (fr.sub (by decide) (w_Model_peels (w_U_peels 4) hp6))
    intro h; have h := Option.some.inj h; subst h
    exact f5
  · refine kx_if (fun _ => ?_) (fun _ => ?_)
    · refine kx_bind (fun p8 hp8 => ?_)
      have f6 : fr [88, 102] I p8 := fr.trans f0 (fr.sub (by decide) (w_Model_ran hp8))
      refine kx_bind (fun p9 hp9 => ?_)
      have f7 : fr [88, 102] I p9.2 := fr.trans f6 (fr.sub (by decide) (hwutells hp9))
      refine kx_bind (fun p10 hp10 => ?_)
      refine kx_bind (fun p11 hp11 => ?_)
      have f9 : fr [88, 102] I p11.2 := fr.trans f7 (fr.sub (by decide) (w_Model_draws (w_U_draws 4) hp11))
      intro h; have h := Option.some.inj h; subst h
      exact f9
    · refine kx_if (fun _ => ?_) (fun _ => ?_)
      · refine kx_bind (fun p13 hp13 => ?_)
        have f10 : fr [88, 102] I p13 := fr.trans f0 (fr.sub (by decide) (w_Model_ran hp13))
        refine kx_bind (fun p14 hp14 => ?_)
        refine kx_bind (fun p15 hp15 => ?_)
        have f12 : fr [88, 102] I p15.2 := fr.trans f10 (fr.sub (by decide) (w_Model_dries (w_U_dries 4) hp15))
        refine kx_bind (fun p16 hp16 => ?_)
        have f13 : fr [88, 102] I p16.2 := fr.trans f12 (fr.sub (by decide) (hwutells hp16))
        intro h; have h := Option.some.inj h; subst h
        exact f13
      · refine kx_bind (fun p17 hp17 => ?_)
        have f14 : fr [88, 102] I p17.2 := fr.trans f0 (fr.sub (by decide) (hwutells hp17))
        intro h; have h := Option.some.inj h; subst h
        exact f14
theorem w_U_tells : ∀ (f : Nat) {a b : Int32} {I : HI} {r : Int32 × HI}, U_tells f a b I = some r → fr [88, 102] I r.2 := by
  intro f
  induction f with
  | zero => intro a b I r h; rw [U_tells] at h; cases h
  | succ f ih =>
    intro a b I r h
    rw [U_tells] at h
    exact fr.sub (by decide) (w_Model_tells ih h)
theorem w_Text_addStep {I : HI} {x1 : Int32} {x2 : Int32} {r : HI} : M_Text_addStep I x1 x2 = some r → fr [26, 27, 28] I r := by
  unfold M_Text_addStep
  have f0 : fr [26, 27, 28] I I := fr.refl
  refine kx_if (fun _ => ?_) (fun _ => ?_)
  · intro h; have h := Option.some.inj h; subst h
    exact f0
  · refine kx_grd (fun b2 => ?_)
    refine kx_lti (fun J3 eJ3 => ?_)
    have f1 : fr [26, 27, 28] I J3 := eJ3 ▸ fr.wr (by decide) f0
    refine kx_grd (fun b4 => ?_)
    refine kx_lti (fun J5 eJ5 => ?_)
    have f2 : fr [26, 27, 28] I J5 := eJ5 ▸ fr.wr (by decide) f1
    refine kx_lti (fun J6 eJ6 => ?_)
    have f3 : fr [26, 27, 28] I J6 := eJ6 ▸ fr.wr (by decide) f2
    intro h; have h := Option.some.inj h; subst h
    exact f3
theorem w_L_Text_readLevel_26 {dn : Nat} {rl : Int32 → Int32 → HI → Option (Int32 × HI)} {rf : Int32 → HI → Option (Int32 × HI)} {x1 : Int32} {x2 : Int32} (hwrl : ∀ {a0 a1 : Int32} {I : HI} {r : Int32 × HI}, rl a0 a1 I = some r → fr [26, 27, 28] I r.2) (hwrf : ∀ {a0 : Int32} {I : HI} {r : Int32 × HI}, rf a0 I = some r → fr [26, 27, 28] I r.2) : ∀ {f : Nat} {x3 : Int32} {I : HI} {r : Nat × HI}, L_Text_readLevel_26 dn rl rf x1 x2 f x3 I = some r → fr [26, 27, 28] I r.2 := by
  intro f
  induction f with
  | zero => intro x3 I r h; rw [L_Text_readLevel_26] at h; cases h
  | succ f ih =>
    intro x3 I r
    rw [L_Text_readLevel_26]
    have f0 : fr [26, 27, 28] I I := fr.refl
    refine kx_if (fun _ => ?_) (fun _ => ?_)
    · intro h; have h := Option.some.inj h; subst h
      exact f0
    · refine kx_bind (fun p2 hp2 => ?_)
      refine kx_if (fun _ => ?_) (fun _ => ?_)
      · refine kx_bind (fun p4 hp4 => ?_)
        refine kx_lti (fun J5 eJ5 => ?_)
        have f3 : fr [26, 27, 28] I J5 := eJ5 ▸ fr.wr (by decide) f0
        refine kx_bind (fun p6 hp6 => ?_)
        have f4 : fr [26, 27, 28] I p6.2 := fr.trans f3 (fr.sub (by decide) (hwrl hp6))
        refine kx_if (fun _ => ?_) (fun _ => ?_)
        · intro h; have h := Option.some.inj h; subst h
          exact f4
        · refine kx_bind (fun p8 hp8 => ?_)
          have f5 : fr [26, 27, 28] I p8 := fr.trans f4 (fr.sub (by decide) (w_Text_addStep hp8))
          refine kx_if (fun _ => ?_) (fun _ => ?_)
          · intro h; have h := Option.some.inj h; subst h
            exact f5
          · exact fun h => fr.trans f5 (ih h)
      · intro h; have h := Option.some.inj h; subst h
        exact f0
theorem w_Text_readLevel {dn : Nat} {rl : Int32 → Int32 → HI → Option (Int32 × HI)} {rf : Int32 → HI → Option (Int32 × HI)} {I : HI} {x1 : Int32} {x2 : Int32} (hwrl : ∀ {a0 a1 : Int32} {I : HI} {r : Int32 × HI}, rl a0 a1 I = some r → fr [26, 27, 28] I r.2) (hwrf : ∀ {a0 : Int32} {I : HI} {r : Int32 × HI}, rf a0 I = some r → fr [26, 27, 28] I r.2) {r : Int32 × HI} : M_Text_readLevel dn rl rf I x1 x2 = some r → fr [26, 27, 28] I r.2 := by
  unfold M_Text_readLevel
  have f0 : fr [26, 27, 28] I I := fr.refl
  refine kx_if (fun _ => ?_) (fun _ => ?_)
  · refine kx_bind (fun p2 hp2 => ?_)
    have f1 : fr [26, 27, 28] I p2.2 := fr.trans f0 (fr.sub (by decide) (hwrl hp2))
    refine kx_if (fun _ => ?_) (fun _ => ?_)
    · intro h; have h := Option.some.inj h; subst h
      exact f1
    · refine kx_bind (fun p4 hp4 => ?_)
      have f2 : fr [26, 27, 28] I p4.2 := fr.trans f1 (fr.sub (by decide) (w_L_Text_readLevel_26 hwrl hwrf hp4))
      refine kx_if (fun _ => ?_) (fun _ => ?_)
      · intro h; have h := Option.some.inj h; subst h
        exact f2
      · refine kx_if (fun _ => ?_) (fun _ => ?_)
        · intro h; have h := Option.some.inj h; subst h
          exact f2
        · intro h; have h := Option.some.inj h; subst h
          exact f2
  · refine kx_bind (fun p5 hp5 => ?_)
    have f3 : fr [26, 27, 28] I p5.2 := fr.trans f0 (fr.sub (by decide) (hwrf hp5))
    refine kx_grd (fun _ => ?_)
    intro h; have h := Option.some.inj h; subst h
    exact f3
theorem w_Text_readNot {dn : Nat} {rl : Int32 → Int32 → HI → Option (Int32 × HI)} {rf : Int32 → HI → Option (Int32 × HI)} {I : HI} {x1 : Int32} (hwrl : ∀ {a0 a1 : Int32} {I : HI} {r : Int32 × HI}, rl a0 a1 I = some r → fr [26, 27, 28] I r.2) (hwrf : ∀ {a0 : Int32} {I : HI} {r : Int32 × HI}, rf a0 I = some r → fr [26, 27, 28] I r.2) {r : Int32 × HI} : M_Text_readNot dn rl rf I x1 = some r → fr [26, 27, 28] I r.2 := by
  unfold M_Text_readNot
  have f0 : fr [26, 27, 28] I I := fr.refl
  refine kx_bind (fun p1 hp1 => ?_)
  have f1 : fr [26, 27, 28] I p1.2 := fr.trans f0 (fr.sub (by decide) (hwrf hp1))
  refine kx_if (fun _ => ?_) (fun _ => ?_)
  · intro h; have h := Option.some.inj h; subst h
    exact f1
  · refine kx_bind (fun p3 hp3 => ?_)
    have f2 : fr [26, 27, 28] I p3 := fr.trans f1 (fr.sub (by decide) (w_Text_addStep hp3))
    intro h; have h := Option.some.inj h; subst h
    exact f2
theorem w_Text_readBracket {dn : Nat} {rl : Int32 → Int32 → HI → Option (Int32 × HI)} {rf : Int32 → HI → Option (Int32 × HI)} {I : HI} {x1 : Int32} (hwrl : ∀ {a0 a1 : Int32} {I : HI} {r : Int32 × HI}, rl a0 a1 I = some r → fr [26, 27, 28] I r.2) (hwrf : ∀ {a0 : Int32} {I : HI} {r : Int32 × HI}, rf a0 I = some r → fr [26, 27, 28] I r.2) {r : Int32 × HI} : M_Text_readBracket dn rl rf I x1 = some r → fr [26, 27, 28] I r.2 := by
  unfold M_Text_readBracket
  have f0 : fr [26, 27, 28] I I := fr.refl
  refine kx_bind (fun p1 hp1 => ?_)
  have f1 : fr [26, 27, 28] I p1.2 := fr.trans f0 (fr.sub (by decide) (hwrl hp1))
  refine kx_if (fun _ => ?_) (fun _ => ?_)
  · intro h; have h := Option.some.inj h; subst h
    exact f1
  · refine kx_bind (fun p3 hp3 => ?_)
    refine kx_if (fun _ => ?_) (fun _ => ?_)
    · refine kx_lti (fun J5 eJ5 => ?_)
      have f3 : fr [26, 27, 28] I J5 := eJ5 ▸ fr.wr (by decide) f1
      intro h; have h := Option.some.inj h; subst h
      exact f3
    · intro h; have h := Option.some.inj h; subst h
      exact f1
theorem w_L_Text_readNumber_4 {dn : Nat} : ∀ {f : Nat} {x1 : Int32} {x2 : Int32} {I : HI} {r : Int32 × HI}, L_Text_readNumber_4 dn f x1 x2 I = some r → fr [26] I r.2 := by
  intro f
  induction f with
  | zero => intro x1 x2 I r h; rw [L_Text_readNumber_4] at h; cases h
  | succ f ih =>
    intro x1 x2 I r
    rw [L_Text_readNumber_4]
    have f0 : fr [26] I I := fr.refl
    refine kx_if (fun _ => ?_) (fun _ => ?_)
    · intro h; have h := Option.some.inj h; subst h
      exact f0
    · refine kx_bind (fun p2 hp2 => ?_)
      refine kx_if (fun _ => ?_) (fun _ => ?_)
      · intro h; have h := Option.some.inj h; subst h
        exact f0
      · refine kx_bind (fun p4 hp4 => ?_)
        refine kx_lti (fun J5 eJ5 => ?_)
        have f3 : fr [26] I J5 := eJ5 ▸ fr.wr (by decide) f0
        exact fun h => fr.trans f3 (ih h)
theorem w_Text_readNumber {dn : Nat} {I : HI} {r : HI} : M_Text_readNumber dn I = some r → fr [26, 27, 28] I r := by
  unfold M_Text_readNumber
  have f0 : fr [26, 27, 28] I I := fr.refl
  refine kx_bind (fun p1 hp1 => ?_)
  have f1 : fr [26, 27, 28] I p1.2 := fr.trans f0 (fr.sub (by decide) (w_L_Text_readNumber_4 hp1))
  refine kx_bind (fun p2 hp2 => ?_)
  have f2 : fr [26, 27, 28] I p2 := fr.trans f1 (fr.sub (by decide) (w_Text_addStep hp2))
  intro h; have h := Option.some.inj h; subst h
  exact f2
theorem w_Text_readLeaf {dn : Nat} {rl : Int32 → Int32 → HI → Option (Int32 × HI)} {rf : Int32 → HI → Option (Int32 × HI)} {I : HI} {x1 : Int32} (hwrl : ∀ {a0 a1 : Int32} {I : HI} {r : Int32 × HI}, rl a0 a1 I = some r → fr [26, 27, 28] I r.2) (hwrf : ∀ {a0 : Int32} {I : HI} {r : Int32 × HI}, rf a0 I = some r → fr [26, 27, 28] I r.2) {r : Int32 × HI} : M_Text_readLeaf dn rl rf I x1 = some r → fr [26, 27, 28] I r.2 := by
  unfold M_Text_readLeaf
  have f0 : fr [26, 27, 28] I I := fr.refl
  refine kx_bind (fun p1 hp1 => ?_)
  refine kx_if (fun _ => ?_) (fun _ => ?_)
  · refine kx_if (fun _ => ?_) (fun _ => ?_)
    · refine kx_if (fun _ => ?_) (fun _ => ?_)
      · refine kx_lti (fun J5 eJ5 => ?_)
        have f2 : fr [26, 27, 28] I J5 := eJ5 ▸ fr.wr (by decide) f0
        refine kx_bind (fun p6 hp6 => ?_)
        have f3 : fr [26, 27, 28] I p6.2 := fr.trans f2 (fr.sub (by decide) (w_Text_readNot hwrl hwrf hp6))
        refine kx_grd (fun _ => ?_)
        intro h; have h := Option.some.inj h; subst h
        exact f3
      · intro h; have h := Option.some.inj h; subst h
        exact f0
    · refine kx_if (fun _ => ?_) (fun _ => ?_)
      · refine kx_if (fun _ => ?_) (fun _ => ?_)
        · refine kx_lti (fun J10 eJ10 => ?_)
          have f4 : fr [26, 27, 28] I J10 := eJ10 ▸ fr.wr (by decide) f0
          refine kx_bind (fun p11 hp11 => ?_)
          have f5 : fr [26, 27, 28] I p11.2 := fr.trans f4 (fr.sub (by decide) (w_Text_readBracket hwrl hwrf hp11))
          refine kx_grd (fun _ => ?_)
          intro h; have h := Option.some.inj h; subst h
          exact f5
        · intro h; have h := Option.some.inj h; subst h
          exact f0
      · refine kx_if (fun _ => ?_) (fun _ => ?_)
        · refine kx_if (fun _ => ?_) (fun _ => ?_)
          · refine kx_lti (fun J15 eJ15 => ?_)
            have f6 : fr [26, 27, 28] I J15 := eJ15 ▸ fr.wr (by decide) f0
            refine kx_bind (fun p16 hp16 => ?_)
            have f7 : fr [26, 27, 28] I p16 := fr.trans f6 (fr.sub (by decide) (w_Text_addStep hp16))
            intro h; have h := Option.some.inj h; subst h
            exact f7
          · intro h; have h := Option.some.inj h; subst h
            exact f0
        · intro h; have h := Option.some.inj h; subst h
          exact f0
  · refine kx_bind (fun p17 hp17 => ?_)
    have f8 : fr [26, 27, 28] I p17 := fr.trans f0 (fr.sub (by decide) (w_Text_readNumber hp17))
    intro h; have h := Option.some.inj h; subst h
    exact f8
theorem w_U_rd (dn : Nat) : ∀ (f : Nat), (∀ {a b : Int32} {I : HI} {r : Int32 × HI}, U_rd dn f true a b I = some r → fr [26, 27, 28] I r.2) ∧ (∀ {a : Int32} {I : HI} {r : Int32 × HI}, U_rd dn f false 0 a I = some r → fr [26, 27, 28] I r.2) := by
  intro f
  induction f with
  | zero =>
    refine ⟨fun h => ?_, fun h => ?_⟩
    · rw [U_rd] at h; cases h
    · rw [U_rd] at h; cases h
  | succ f ih =>
    refine ⟨fun h => ?_, fun h => ?_⟩
    · rw [U_rd] at h
      exact fr.sub (by decide) (w_Text_readLevel ih.1 ih.2 h)
    · rw [U_rd] at h
      exact fr.sub (by decide) (w_Text_readLeaf ih.1 ih.2 h)
theorem w_U_rl (dn f : Nat) {a b : Int32} {I : HI} {r : Int32 × HI} (h : U_rl dn f a b I = some r) : fr [26, 27, 28] I r.2 := (w_U_rd dn f).1 h
theorem w_U_rf (dn f : Nat) {a : Int32} {I : HI} {r : Int32 × HI} (h : U_rf dn f a I = some r) : fr [26, 27, 28] I r.2 := (w_U_rd dn f).2 h
theorem w_Model_finds {I : HI} {x1 : Int32} {r : Int32 × HI} : M_Model_finds I x1 = some r → fr [91] I r.2 := by
  unfold M_Model_finds
  have f0 : fr [91] I I := fr.refl
  refine kx_grd (fun b1 => ?_)
  refine kx_lti (fun J2 eJ2 => ?_)
  have f1 : fr [91] I J2 := eJ2 ▸ fr.wr (by decide) f0
  intro h; have h := Option.some.inj h; subst h
  exact f1
theorem w_Model_becomes {I : HI} {x1 : Int32} {x2 : Int32} {x3 : Int32} {r : HI} : M_Model_becomes I x1 x2 x3 = some r → fr [89] I r := by
  unfold M_Model_becomes
  have f0 : fr [89] I I := fr.refl
  refine kx_grd (fun b1 => ?_)
  refine kx_lti (fun J2 eJ2 => ?_)
  have f1 : fr [89] I J2 := eJ2 ▸ fr.wr (by decide) f0
  intro h; have h := Option.some.inj h; subst h
  exact f1
theorem w_Model_stroke {I : HI} {x1 : Int32} {x2 : Int32} {x3 : Int32} {r : Int32 × HI} : M_Model_stroke I x1 x2 x3 = some r → fr [89, 91] I r.2 := by
  unfold M_Model_stroke
  have f0 : fr [89, 91] I I := fr.refl
  refine kx_if (fun _ => ?_) (fun _ => ?_)
  · refine kx_bind (fun p2 hp2 => ?_)
    have f1 : fr [89, 91] I p2.2 := fr.trans f0 (fr.sub (by decide) (w_Model_finds hp2))
    intro h; have h := Option.some.inj h; subst h
    exact f1
  · refine kx_if (fun _ => ?_) (fun _ => ?_)
    · refine kx_bind (fun p4 hp4 => ?_)
      have f2 : fr [89, 91] I p4.2 := fr.trans f0 (fr.sub (by decide) (w_Model_finds hp4))
      intro h; have h := Option.some.inj h; subst h
      exact f2
    · refine kx_if (fun _ => ?_) (fun _ => ?_)
      · refine kx_bind (fun p6 hp6 => ?_)
        have f3 : fr [89, 91] I p6.2 := fr.trans f0 (fr.sub (by decide) (w_Model_finds hp6))
        intro h; have h := Option.some.inj h; subst h
        exact f3
      · refine kx_if (fun _ => ?_) (fun _ => ?_)
        · refine kx_bind (fun p8 hp8 => ?_)
          have f4 : fr [89, 91] I p8.2 := fr.trans f0 (fr.sub (by decide) (w_Model_finds hp8))
          intro h; have h := Option.some.inj h; subst h
          exact f4
        · refine kx_bind (fun p9 hp9 => ?_)
          have f5 : fr [89, 91] I p9 := fr.trans f0 (fr.sub (by decide) (w_Model_becomes hp9))
          refine kx_bind (fun p10 hp10 => ?_)
          have f6 : fr [89, 91] I p10 := fr.trans f5 (fr.sub (by decide) (w_Model_becomes hp10))
          refine kx_bind (fun p11 hp11 => ?_)
          have f7 : fr [89, 91] I p11 := fr.trans f6 (fr.sub (by decide) (w_Model_becomes hp11))
          refine kx_bind (fun p12 hp12 => ?_)
          have f8 : fr [89, 91] I p12 := fr.trans f7 (fr.sub (by decide) (w_Model_becomes hp12))
          refine kx_bind (fun p13 hp13 => ?_)
          have f9 : fr [89, 91] I p13 := fr.trans f8 (fr.sub (by decide) (w_Model_becomes hp13))
          refine kx_bind (fun p14 hp14 => ?_)
          have f10 : fr [89, 91] I p14 := fr.trans f9 (fr.sub (by decide) (w_Model_becomes hp14))
          refine kx_bind (fun p15 hp15 => ?_)
          have f11 : fr [89, 91] I p15 := fr.trans f10 (fr.sub (by decide) (w_Model_becomes hp15))
          refine kx_lti (fun J16 eJ16 => ?_)
          have f12 : fr [89, 91] I J16 := eJ16 ▸ fr.wr (by decide) f11
          intro h; have h := Option.some.inj h; subst h
          exact f12
theorem w_Model_worked {I : HI} {x1 : Int32} {x2 : Int32} {x3 : Int32} {r : Int32 × HI} : M_Model_worked I x1 x2 x3 = some r → fr [88] I r.2 := by
  unfold M_Model_worked
  have f0 : fr [88] I I := fr.refl
  refine kx_lti (fun J1 eJ1 => ?_)
  have f1 : fr [88] I J1 := eJ1 ▸ fr.wr (by decide) f0
  refine kx_lti (fun J2 eJ2 => ?_)
  have f2 : fr [88] I J2 := eJ2 ▸ fr.wr (by decide) f1
  refine kx_lti (fun J3 eJ3 => ?_)
  have f3 : fr [88] I J3 := eJ3 ▸ fr.wr (by decide) f2
  refine kx_lti (fun J4 eJ4 => ?_)
  have f4 : fr [88] I J4 := eJ4 ▸ fr.wr (by decide) f3
  refine kx_lti (fun J5 eJ5 => ?_)
  have f5 : fr [88] I J5 := eJ5 ▸ fr.wr (by decide) f4
  refine kx_if (fun _ => ?_) (fun _ => ?_)
  · refine kx_lti (fun J7 eJ7 => ?_)
    have f6 : fr [88] I J7 := eJ7 ▸ fr.wr (by decide) f5
    refine kx_bind (fun p8 hp8 => ?_)
    have f7 : fr [88] I p8.2 := fr.trans f6 (fr.sub (by decide) (w_Model_either (w_U_unit 7) hp8))
    refine kx_if (fun _ => ?_) (fun _ => ?_)
    · intro h; have h := Option.some.inj h; subst h
      exact f7
    · refine kx_if (fun _ => ?_) (fun _ => ?_)
      · intro h; have h := Option.some.inj h; subst h
        exact f7
      · refine kx_lti (fun p11 hp11 => ?_)
        have f8 : fr [88] I p11.2 := fr.trans f7 (fr.sub (by decide) (w_Model_wrong hp11))
        intro h; have h := Option.some.inj h; subst h
        exact f8
  · refine kx_lti (fun J12 eJ12 => ?_)
    have f9 : fr [88] I J12 := eJ12 ▸ fr.wr (by decide) f5
    refine kx_bind (fun p13 hp13 => ?_)
    have f10 : fr [88] I p13.2 := fr.trans f9 (fr.sub (by decide) (w_Model_either (w_U_unit 7) hp13))
    refine kx_if (fun _ => ?_) (fun _ => ?_)
    · intro h; have h := Option.some.inj h; subst h
      exact f10
    · refine kx_if (fun _ => ?_) (fun _ => ?_)
      · intro h; have h := Option.some.inj h; subst h
        exact f10
      · refine kx_lti (fun p16 hp16 => ?_)
        have f11 : fr [88] I p16.2 := fr.trans f10 (fr.sub (by decide) (w_Model_wrong hp16))
        intro h; have h := Option.some.inj h; subst h
        exact f11
theorem w_Model_gives {I : HI} {x1 : Int32} {x2 : Int32} {x3 : Int32} {x4 : Int32} {x5 : Int32} {r : Int32 × HI} : M_Model_gives I x1 x2 x3 x4 x5 = some r → fr [88, 92] I r.2 := by
  unfold M_Model_gives
  have f0 : fr [88, 92] I I := fr.refl
  refine kx_if (fun _ => ?_) (fun _ => ?_)
  · refine kx_grd (fun b2 => ?_)
    refine kx_if (fun _ => ?_) (fun _ => ?_)
    · intro h; have h := Option.some.inj h; subst h
      exact f0
    · refine kx_lti (fun J4 eJ4 => ?_)
      have f1 : fr [88, 92] I J4 := eJ4 ▸ fr.wr (by decide) f0
      refine kx_lti (fun J5 eJ5 => ?_)
      have f2 : fr [88, 92] I J5 := eJ5 ▸ fr.wr (by decide) f1
      refine kx_lti (fun J6 eJ6 => ?_)
      have f3 : fr [88, 92] I J6 := eJ6 ▸ fr.wr (by decide) f2
      refine kx_lti (fun J7 eJ7 => ?_)
      have f4 : fr [88, 92] I J7 := eJ7 ▸ fr.wr (by decide) f3
      refine kx_bind (fun p8 hp8 => ?_)
      have f5 : fr [88, 92] I p8.2 := fr.trans f4 (fr.sub (by decide) (w_Model_worked hp8))
      intro h; have h := Option.some.inj h; subst h
      exact f5
  · refine kx_grd (fun b9 => ?_)
    refine kx_if (fun _ => ?_) (fun _ => ?_)
    · intro h; have h := Option.some.inj h; subst h
      exact f0
    · refine kx_lti (fun J11 eJ11 => ?_)
      have f6 : fr [88, 92] I J11 := eJ11 ▸ fr.wr (by decide) f0
      refine kx_lti (fun J12 eJ12 => ?_)
      have f7 : fr [88, 92] I J12 := eJ12 ▸ fr.wr (by decide) f6
      refine kx_lti (fun J13 eJ13 => ?_)
      have f8 : fr [88, 92] I J13 := eJ13 ▸ fr.wr (by decide) f7
      refine kx_lti (fun J14 eJ14 => ?_)
      have f9 : fr [88, 92] I J14 := eJ14 ▸ fr.wr (by decide) f8
      refine kx_bind (fun p15 hp15 => ?_)
      have f10 : fr [88, 92] I p15.2 := fr.trans f9 (fr.sub (by decide) (w_Model_worked hp15))
      intro h; have h := Option.some.inj h; subst h
      exact f10
theorem w_Model_dates {I : HI} {x1 : Int32} {r : Int32 × HI} : M_Model_dates I x1 = some r → fr [88, 92] I r.2 := by
  unfold M_Model_dates
  have f0 : fr [88, 92] I I := fr.refl
  refine kx_bind (fun p1 hp1 => ?_)
  refine kx_bind (fun p2 hp2 => ?_)
  refine kx_bind (fun p3 hp3 => ?_)
  refine kx_bind (fun p4 hp4 => ?_)
  refine kx_bind (fun p5 hp5 => ?_)
  have f5 : fr [88, 92] I p5.2 := fr.trans f0 (fr.sub (by decide) (w_Model_gives hp5))
  intro h; have h := Option.some.inj h; subst h
  exact f5
theorem w_Model_earlyOf {I : HI} {x1 : Int32} {r : Int32 × HI} : M_Model_earlyOf I x1 = some r → fr [88, 92] I r.2 := by
  unfold M_Model_earlyOf
  have f0 : fr [88, 92] I I := fr.refl
  refine kx_bind (fun p1 hp1 => ?_)
  refine kx_bind (fun p2 hp2 => ?_)
  refine kx_bind (fun p3 hp3 => ?_)
  refine kx_if (fun _ => ?_) (fun _ => ?_)
  · refine kx_bind (fun p5 hp5 => ?_)
    have f4 : fr [88, 92] I p5.2 := fr.trans f0 (fr.sub (by decide) (w_Model_dates hp5))
    intro h; have h := Option.some.inj h; subst h
    exact f4
  · refine kx_if (fun _ => ?_) (fun _ => ?_)
    · refine kx_bind (fun p7 hp7 => ?_)
      have f5 : fr [88, 92] I p7.2 := fr.trans f0 (fr.sub (by decide) (w_Model_dates hp7))
      intro h; have h := Option.some.inj h; subst h
      exact f5
    · refine kx_if (fun _ => ?_) (fun _ => ?_)
      · refine kx_bind (fun p9 hp9 => ?_)
        have f6 : fr [88, 92] I p9.2 := fr.trans f0 (fr.sub (by decide) (w_Model_dates hp9))
        intro h; have h := Option.some.inj h; subst h
        exact f6
      · refine kx_if (fun _ => ?_) (fun _ => ?_)
        · refine kx_bind (fun p11 hp11 => ?_)
          have f7 : fr [88, 92] I p11.2 := fr.trans f0 (fr.sub (by decide) (w_Model_dates hp11))
          intro h; have h := Option.some.inj h; subst h
          exact f7
        · refine kx_if (fun _ => ?_) (fun _ => ?_)
          · refine kx_bind (fun p13 hp13 => ?_)
            refine kx_bind (fun p14 hp14 => ?_)
            have f9 : fr [88, 92] I p14.2 := fr.trans f0 (fr.sub (by decide) (w_Model_dates hp14))
            intro h; have h := Option.some.inj h; subst h
            exact f9
          · refine kx_if (fun _ => ?_) (fun _ => ?_)
            · refine kx_if (fun _ => ?_) (fun _ => ?_)
              · refine kx_bind (fun p17 hp17 => ?_)
                have f10 : fr [88, 92] I p17.2 := fr.trans f0 (fr.sub (by decide) (w_Model_dates hp17))
                intro h; have h := Option.some.inj h; subst h
                exact f10
              · refine kx_bind (fun p18 hp18 => ?_)
                have f11 : fr [88, 92] I p18.2 := fr.trans f0 (fr.sub (by decide) (w_Model_dates hp18))
                intro h; have h := Option.some.inj h; subst h
                exact f11
            · refine kx_bind (fun p19 hp19 => ?_)
              have f12 : fr [88, 92] I p19.2 := fr.trans f0 (fr.sub (by decide) (w_Model_dates hp19))
              intro h; have h := Option.some.inj h; subst h
              exact f12
theorem w_Model_lateOf {I : HI} {x1 : Int32} {r : Int32 × HI} : M_Model_lateOf I x1 = some r → fr [88, 92] I r.2 := by
  unfold M_Model_lateOf
  have f0 : fr [88, 92] I I := fr.refl
  refine kx_bind (fun p1 hp1 => ?_)
  refine kx_bind (fun p2 hp2 => ?_)
  refine kx_if (fun _ => ?_) (fun _ => ?_)
  · refine kx_bind (fun p4 hp4 => ?_)
    refine kx_bind (fun p5 hp5 => ?_)
    have f4 : fr [88, 92] I p5.2 := fr.trans f0 (fr.sub (by decide) (w_Model_dates hp5))
    intro h; have h := Option.some.inj h; subst h
    exact f4
  · refine kx_if (fun _ => ?_) (fun _ => ?_)
    · refine kx_bind (fun p7 hp7 => ?_)
      have f5 : fr [88, 92] I p7.2 := fr.trans f0 (fr.sub (by decide) (w_Model_dates hp7))
      intro h; have h := Option.some.inj h; subst h
      exact f5
    · refine kx_if (fun _ => ?_) (fun _ => ?_)
      · refine kx_bind (fun p9 hp9 => ?_)
        refine kx_bind (fun p10 hp10 => ?_)
        have f7 : fr [88, 92] I p10.2 := fr.trans f0 (fr.sub (by decide) (w_Model_dates hp10))
        intro h; have h := Option.some.inj h; subst h
        exact f7
      · refine kx_if (fun _ => ?_) (fun _ => ?_)
        · refine kx_bind (fun p12 hp12 => ?_)
          refine kx_bind (fun p13 hp13 => ?_)
          have f9 : fr [88, 92] I p13.2 := fr.trans f0 (fr.sub (by decide) (w_Model_dates hp13))
          intro h; have h := Option.some.inj h; subst h
          exact f9
        · refine kx_if (fun _ => ?_) (fun _ => ?_)
          · refine kx_bind (fun p15 hp15 => ?_)
            have f10 : fr [88, 92] I p15.2 := fr.trans f0 (fr.sub (by decide) (w_Model_dates hp15))
            intro h; have h := Option.some.inj h; subst h
            exact f10
          · refine kx_bind (fun p16 hp16 => ?_)
            have f11 : fr [88, 92] I p16.2 := fr.trans f0 (fr.sub (by decide) (w_Model_dates hp16))
            intro h; have h := Option.some.inj h; subst h
            exact f11
theorem w_Model_ofStroke {I : HI} {x1 : Int32} {x2 : Int32} {r : Int32 × HI} : M_Model_ofStroke I x1 x2 = some r → fr [88, 91, 92] I r.2 := by
  unfold M_Model_ofStroke
  have f0 : fr [88, 91, 92] I I := fr.refl
  refine kx_if (fun _ => ?_) (fun _ => ?_)
  · refine kx_bind (fun p2 hp2 => ?_)
    have f1 : fr [88, 91, 92] I p2.2 := fr.trans f0 (fr.sub (by decide) (w_Model_finds hp2))
    intro h; have h := Option.some.inj h; subst h
    exact f1
  · refine kx_if (fun _ => ?_) (fun _ => ?_)
    · refine kx_bind (fun p4 hp4 => ?_)
      have f2 : fr [88, 91, 92] I p4.2 := fr.trans f0 (fr.sub (by decide) (w_Model_finds hp4))
      intro h; have h := Option.some.inj h; subst h
      exact f2
    · refine kx_if (fun _ => ?_) (fun _ => ?_)
      · refine kx_if (fun _ => ?_) (fun _ => ?_)
        · refine kx_bind (fun p7 hp7 => ?_)
          have f3 : fr [88, 91, 92] I p7.2 := fr.trans f0 (fr.sub (by decide) (w_Model_earlyOf hp7))
          intro h; have h := Option.some.inj h; subst h
          exact f3
        · refine kx_if (fun _ => ?_) (fun _ => ?_)
          · refine kx_bind (fun p9 hp9 => ?_)
            have f4 : fr [88, 91, 92] I p9.2 := fr.trans f0 (fr.sub (by decide) (w_Model_lateOf hp9))
            intro h; have h := Option.some.inj h; subst h
            exact f4
          · refine kx_bind (fun p10 hp10 => ?_)
            intro h; have h := Option.some.inj h; subst h
            exact f0
      · refine kx_bind (fun p11 hp11 => ?_)
        intro h; have h := Option.some.inj h; subst h
        exact f0
theorem w_Model_change {I : HI} {x1 : Int32} {x2 : Int32} {x3 : Int32} {r : Int32 × HI} : M_Model_change I x1 x2 x3 = some r → fr [89, 91] I r.2 := by
  unfold M_Model_change
  have f0 : fr [89, 91] I I := fr.refl
  refine kx_if (fun _ => ?_) (fun _ => ?_)
  · refine kx_bind (fun p2 hp2 => ?_)
    have f1 : fr [89, 91] I p2.2 := fr.trans f0 (fr.sub (by decide) (w_Model_finds hp2))
    intro h; have h := Option.some.inj h; subst h
    exact f1
  · refine kx_if (fun _ => ?_) (fun _ => ?_)
    · refine kx_bind (fun p4 hp4 => ?_)
      have f2 : fr [89, 91] I p4.2 := fr.trans f0 (fr.sub (by decide) (w_Model_finds hp4))
      intro h; have h := Option.some.inj h; subst h
      exact f2
    · refine kx_bind (fun p5 hp5 => ?_)
      refine kx_bind (fun p6 hp6 => ?_)
      have f4 : fr [89, 91] I p6 := fr.trans f0 (fr.sub (by decide) (w_Model_becomes hp6))
      intro h; have h := Option.some.inj h; subst h
      exact f4
theorem w_Model_become {I : HI} {x1 : Int32} {x2 : Int32} {r : Int32 × HI} : M_Model_become I x1 x2 = some r → fr [89, 91] I r.2 := by
  unfold M_Model_become
  have f0 : fr [89, 91] I I := fr.refl
  refine kx_if (fun _ => ?_) (fun _ => ?_)
  · refine kx_bind (fun p2 hp2 => ?_)
    have f1 : fr [89, 91] I p2.2 := fr.trans f0 (fr.sub (by decide) (w_Model_finds hp2))
    intro h; have h := Option.some.inj h; subst h
    exact f1
  · refine kx_if (fun _ => ?_) (fun _ => ?_)
    · refine kx_bind (fun p4 hp4 => ?_)
      have f2 : fr [89, 91] I p4.2 := fr.trans f0 (fr.sub (by decide) (w_Model_finds hp4))
      intro h; have h := Option.some.inj h; subst h
      exact f2
    · refine kx_bind (fun p5 hp5 => ?_)
      refine kx_bind (fun p6 hp6 => ?_)
      have f4 : fr [89, 91] I p6 := fr.trans f0 (fr.sub (by decide) (w_Model_becomes hp6))
      refine kx_bind (fun p7 hp7 => ?_)
      have f5 : fr [89, 91] I p7 := fr.trans f4 (fr.sub (by decide) (w_Model_becomes hp7))
      intro h; have h := Option.some.inj h; subst h
      exact f5
theorem w_Model_as {I : HI} {x1 : Int32} {x2 : Int32} {r : Int32 × HI} : M_Model_as I x1 x2 = some r → fr [91] I r.2 := by
  unfold M_Model_as
  have f0 : fr [91] I I := fr.refl
  refine kx_if (fun _ => ?_) (fun _ => ?_)
  · refine kx_bind (fun p2 hp2 => ?_)
    have f1 : fr [91] I p2.2 := fr.trans f0 (fr.sub (by decide) (w_Model_finds hp2))
    intro h; have h := Option.some.inj h; subst h
    exact f1
  · refine kx_if (fun _ => ?_) (fun _ => ?_)
    · refine kx_bind (fun p4 hp4 => ?_)
      have f2 : fr [91] I p4.2 := fr.trans f0 (fr.sub (by decide) (w_Model_finds hp4))
      intro h; have h := Option.some.inj h; subst h
      exact f2
    · refine kx_bind (fun p5 hp5 => ?_)
      refine kx_if (fun _ => ?_) (fun _ => ?_)
      · refine kx_bind (fun p7 hp7 => ?_)
        intro h; have h := Option.some.inj h; subst h
        exact f0
      · refine kx_if (fun _ => ?_) (fun _ => ?_)
        · refine kx_bind (fun p9 hp9 => ?_)
          intro h; have h := Option.some.inj h; subst h
          exact f0
        · refine kx_if (fun _ => ?_) (fun _ => ?_)
          · refine kx_bind (fun p11 hp11 => ?_)
            intro h; have h := Option.some.inj h; subst h
            exact f0
          · refine kx_bind (fun p12 hp12 => ?_)
            have f7 : fr [91] I p12.2 := fr.trans f0 (fr.sub (by decide) (w_Model_finds hp12))
            intro h; have h := Option.some.inj h; subst h
            exact f7
theorem w_Model_lookComes {I : HI} {x1 : Int32} {x2 : Int32} {x3 : Int32} {r : Int32 × HI} : M_Model_lookComes I x1 x2 x3 = some r → fr [89] I r.2 := by
  unfold M_Model_lookComes
  have f0 : fr [89] I I := fr.refl
  refine kx_grd (fun b1 => ?_)
  refine kx_lti (fun J2 eJ2 => ?_)
  have f1 : fr [89] I J2 := eJ2 ▸ fr.wr (by decide) f0
  refine kx_grd (fun b3 => ?_)
  refine kx_lti (fun J4 eJ4 => ?_)
  have f2 : fr [89] I J4 := eJ4 ▸ fr.wr (by decide) f1
  refine kx_grd (fun b5 => ?_)
  refine kx_lti (fun J6 eJ6 => ?_)
  have f3 : fr [89] I J6 := eJ6 ▸ fr.wr (by decide) f2
  refine kx_lti (fun J7 eJ7 => ?_)
  have f4 : fr [89] I J7 := eJ7 ▸ fr.wr (by decide) f3
  intro h; have h := Option.some.inj h; subst h
  exact f4
theorem w_Model_over {I : HI} {x1 : Int32} {x2 : Int32} {x3 : Int32} {r : Int32 × HI} : M_Model_over I x1 x2 x3 = some r → fr [89, 91] I r.2 := by
  unfold M_Model_over
  have f0 : fr [89, 91] I I := fr.refl
  refine kx_if (fun _ => ?_) (fun _ => ?_)
  · refine kx_bind (fun p2 hp2 => ?_)
    have f1 : fr [89, 91] I p2.2 := fr.trans f0 (fr.sub (by decide) (w_Model_finds hp2))
    intro h; have h := Option.some.inj h; subst h
    exact f1
  · refine kx_if (fun _ => ?_) (fun _ => ?_)
    · refine kx_bind (fun p4 hp4 => ?_)
      have f2 : fr [89, 91] I p4.2 := fr.trans f0 (fr.sub (by decide) (w_Model_finds hp4))
      intro h; have h := Option.some.inj h; subst h
      exact f2
    · refine kx_bind (fun p5 hp5 => ?_)
      have f3 : fr [89, 91] I p5.2 := fr.trans f0 (fr.sub (by decide) (w_Model_lookComes hp5))
      intro h; have h := Option.some.inj h; subst h
      exact f3
theorem w_Model_weightOf {I : HI} {x1 : Int32} {r : Int32 × HI} : M_Model_weightOf I x1 = some r → fr [88, 92] I r.2 := by
  unfold M_Model_weightOf
  have f0 : fr [88, 92] I I := fr.refl
  refine kx_grd (fun b1 => ?_)
  refine kx_bind (fun p2 hp2 => ?_)
  refine kx_bind (fun p3 hp3 => ?_)
  refine kx_bind (fun p4 hp4 => ?_)
  refine kx_bind (fun p5 hp5 => ?_)
  refine kx_bind (fun p6 hp6 => ?_)
  have f5 : fr [88, 92] I p6.2 := fr.trans f0 (fr.sub (by decide) (w_Model_gives hp6))
  intro h; have h := Option.some.inj h; subst h
  exact f5
theorem w_Model_ofLook {I : HI} {x1 : Int32} {x2 : Int32} {r : Int32 × HI} : M_Model_ofLook I x1 x2 = some r → fr [88, 91, 92] I r.2 := by
  unfold M_Model_ofLook
  have f0 : fr [88, 91, 92] I I := fr.refl
  refine kx_if (fun _ => ?_) (fun _ => ?_)
  · refine kx_bind (fun p2 hp2 => ?_)
    have f1 : fr [88, 91, 92] I p2.2 := fr.trans f0 (fr.sub (by decide) (w_Model_finds hp2))
    intro h; have h := Option.some.inj h; subst h
    exact f1
  · refine kx_if (fun _ => ?_) (fun _ => ?_)
    · refine kx_bind (fun p4 hp4 => ?_)
      have f2 : fr [88, 91, 92] I p4.2 := fr.trans f0 (fr.sub (by decide) (w_Model_finds hp4))
      intro h; have h := Option.some.inj h; subst h
      exact f2
    · refine kx_if (fun _ => ?_) (fun _ => ?_)
      · refine kx_bind (fun p6 hp6 => ?_)
        have f3 : fr [88, 91, 92] I p6.2 := fr.trans f0 (fr.sub (by decide) (w_Model_weightOf hp6))
        intro h; have h := Option.some.inj h; subst h
        exact f3
      · refine kx_grd (fun b7 => ?_)
        intro h; have h := Option.some.inj h; subst h
        exact f0
theorem w_Model_see {I : HI} {x1 : Int32} {x2 : Int32} {r : Int32 × HI} : M_Model_see I x1 x2 = some r → fr [89, 91] I r.2 := by
  unfold M_Model_see
  have f0 : fr [89, 91] I I := fr.refl
  refine kx_if (fun _ => ?_) (fun _ => ?_)
  · refine kx_bind (fun p2 hp2 => ?_)
    have f1 : fr [89, 91] I p2.2 := fr.trans f0 (fr.sub (by decide) (w_Model_finds hp2))
    intro h; have h := Option.some.inj h; subst h
    exact f1
  · refine kx_if (fun _ => ?_) (fun _ => ?_)
    · refine kx_bind (fun p4 hp4 => ?_)
      have f2 : fr [89, 91] I p4.2 := fr.trans f0 (fr.sub (by decide) (w_Model_finds hp4))
      intro h; have h := Option.some.inj h; subst h
      exact f2
    · refine kx_grd (fun b5 => ?_)
      refine kx_lti (fun y6 ey6 => ?_)
      refine kx_lti (fun J7 eJ7 => ?_)
      have f4 : fr [89, 91] I J7 := eJ7 ▸ fr.wr (by decide) f0
      intro h; have h := Option.some.inj h; subst h
      exact f4
theorem w_Model_forget {I : HI} {r : Int32 × HI} : M_Model_forget I = some r → fr [89, 91] I r.2 := by
  unfold M_Model_forget
  have f0 : fr [89, 91] I I := fr.refl
  refine kx_if (fun _ => ?_) (fun _ => ?_)
  · refine kx_bind (fun p2 hp2 => ?_)
    have f1 : fr [89, 91] I p2.2 := fr.trans f0 (fr.sub (by decide) (w_Model_finds hp2))
    intro h; have h := Option.some.inj h; subst h
    exact f1
  · refine kx_lti (fun J3 eJ3 => ?_)
    have f2 : fr [89, 91] I J3 := eJ3 ▸ fr.wr (by decide) f0
    intro h; have h := Option.some.inj h; subst h
    exact f2
theorem w_L_Model_feed_40 {w1 : Int64} {x3 : Int32} : ∀ {f : Nat} {x4 : Int32} {I : HI} {r : HI}, L_Model_feed_40 w1 x3 f x4 I = some r → fr [89] I r := by
  intro f
  induction f with
  | zero => intro x4 I r h; rw [L_Model_feed_40] at h; cases h
  | succ f ih =>
    intro x4 I r
    rw [L_Model_feed_40]
    have f0 : fr [89] I I := fr.refl
    refine kx_if (fun _ => ?_) (fun _ => ?_)
    · intro h; have h := Option.some.inj h; subst h
      exact f0
    · refine kx_grd (fun b2 => ?_)
      refine kx_lti (fun J3 eJ3 => ?_)
      have f1 : fr [89] I J3 := eJ3 ▸ fr.wr (by decide) f0
      refine kx_lti (fun J4 eJ4 => ?_)
      have f2 : fr [89] I J4 := eJ4 ▸ fr.wr (by decide) f1
      exact fun h => fr.trans f2 (ih h)
theorem w_Model_feed {I : HI} {w1 : Int64} {x3 : Int32} {r : Int32 × HI} : M_Model_feed I w1 x3 = some r → fr [89, 91] I r.2 := by
  unfold M_Model_feed
  have f0 : fr [89, 91] I I := fr.refl
  refine kx_if (fun _ => ?_) (fun _ => ?_)
  · refine kx_bind (fun p2 hp2 => ?_)
    have f1 : fr [89, 91] I p2.2 := fr.trans f0 (fr.sub (by decide) (w_Model_finds hp2))
    intro h; have h := Option.some.inj h; subst h
    exact f1
  · refine kx_if (fun _ => ?_) (fun _ => ?_)
    · refine kx_bind (fun p4 hp4 => ?_)
      have f2 : fr [89, 91] I p4 := fr.trans f0 (fr.sub (by decide) (w_L_Model_feed_40 hp4))
      intro h; have h := Option.some.inj h; subst h
      exact f2
    · refine kx_bind (fun p5 hp5 => ?_)
      have f3 : fr [89, 91] I p5.2 := fr.trans f0 (fr.sub (by decide) (w_Model_finds hp5))
      intro h; have h := Option.some.inj h; subst h
      exact f3
theorem w_L_Model_text_68 {x1 : Int32} {x2 : Int32} : ∀ {f : Nat} {x4 : Int32} {I : HI} {r : HI}, L_Model_text_68 x1 x2 f x4 I = some r → fr [89] I r := by
  intro f
  induction f with
  | zero => intro x4 I r h; rw [L_Model_text_68] at h; cases h
  | succ f ih =>
    intro x4 I r
    rw [L_Model_text_68]
    have f0 : fr [89] I I := fr.refl
    refine kx_if (fun _ => ?_) (fun _ => ?_)
    · intro h; have h := Option.some.inj h; subst h
      exact f0
    · refine kx_grd (fun b2 => ?_)
      refine kx_grd (fun b3 => ?_)
      refine kx_lti (fun J4 eJ4 => ?_)
      have f1 : fr [89] I J4 := eJ4 ▸ fr.wr (by decide) f0
      exact fun h => fr.trans f1 (ih h)
theorem w_Model_text {I : HI} {x1 : Int32} {r : Int32 × HI} : M_Model_text I x1 = some r → fr [88, 89, 91] I r.2 := by
  unfold M_Model_text
  have f0 : fr [88, 89, 91] I I := fr.refl
  refine kx_if (fun _ => ?_) (fun _ => ?_)
  · refine kx_bind (fun p2 hp2 => ?_)
    have f1 : fr [88, 89, 91] I p2.2 := fr.trans f0 (fr.sub (by decide) (w_Model_finds hp2))
    intro h; have h := Option.some.inj h; subst h
    exact f1
  · refine kx_lti (fun J3 eJ3 => ?_)
    have f2 : fr [88, 89, 91] I J3 := eJ3 ▸ fr.wr (by decide) f0
    refine kx_bind (fun p4 hp4 => ?_)
    have f3 : fr [88, 89, 91] I p4.2 := fr.trans f2 (fr.sub (by decide) (w_Model_worked hp4))
    refine kx_if (fun _ => ?_) (fun _ => ?_)
    · refine kx_grd (fun b6 => ?_)
      refine kx_lti (fun J7 eJ7 => ?_)
      have f4 : fr [88, 89, 91] I J7 := eJ7 ▸ fr.wr (by decide) f3
      refine kx_bind (fun p8 hp8 => ?_)
      have f5 : fr [88, 89, 91] I p8 := fr.trans f4 (fr.sub (by decide) (w_L_Model_text_68 hp8))
      intro h; have h := Option.some.inj h; subst h
      exact f5
    · intro h; have h := Option.some.inj h; subst h
      exact f3
theorem w_Model_law {I : HI} {x1 : Int32} {x2 : Int32} {x3 : Int32} {x4 : Int32} {x5 : Int32} {r : Int32 × HI} : M_Model_law I x1 x2 x3 x4 x5 = some r → fr [88, 91, 92] I r.2 := by
  unfold M_Model_law
  have f0 : fr [88, 91, 92] I I := fr.refl
  refine kx_if (fun _ => ?_) (fun _ => ?_)
  · refine kx_bind (fun p2 hp2 => ?_)
    have f1 : fr [88, 91, 92] I p2.2 := fr.trans f0 (fr.sub (by decide) (w_Model_finds hp2))
    intro h; have h := Option.some.inj h; subst h
    exact f1
  · refine kx_bind (fun p3 hp3 => ?_)
    have f2 : fr [88, 91, 92] I p3.2 := fr.trans f0 (fr.sub (by decide) (w_Model_gives hp3))
    intro h; have h := Option.some.inj h; subst h
    exact f2
theorem w_L_Model_findBelow_2 : ∀ {f : Nat} {x1 : Int32} {I : HI} {r : HI}, L_Model_findBelow_2 f x1 I = some r → fr [93] I r := by
  intro f
  induction f with
  | zero => intro x1 I r h; rw [L_Model_findBelow_2] at h; cases h
  | succ f ih =>
    intro x1 I r
    rw [L_Model_findBelow_2]
    have f0 : fr [93] I I := fr.refl
    refine kx_if (fun _ => ?_) (fun _ => ?_)
    · intro h; have h := Option.some.inj h; subst h
      exact f0
    · refine kx_grd (fun b2 => ?_)
      refine kx_lti (fun J3 eJ3 => ?_)
      have f1 : fr [93] I J3 := eJ3 ▸ fr.wr (by decide) f0
      exact fun h => fr.trans f1 (ih h)
theorem w_L_Model_findBelow_27 : ∀ {f : Nat} {x1 : Int32} {I : HI} {r : HI}, L_Model_findBelow_27 f x1 I = some r → fr [93] I r := by
  intro f
  induction f with
  | zero => intro x1 I r h; rw [L_Model_findBelow_27] at h; cases h
  | succ f ih =>
    intro x1 I r
    rw [L_Model_findBelow_27]
    have f0 : fr [93] I I := fr.refl
    refine kx_if (fun _ => ?_) (fun _ => ?_)
    · intro h; have h := Option.some.inj h; subst h
      exact f0
    · refine kx_bind (fun p2 hp2 => ?_)
      refine kx_grd (fun b3 => ?_)
      refine kx_bind (fun p4 hp4 => ?_)
      refine kx_lti (fun J5 eJ5 => ?_)
      have f3 : fr [93] I J5 := eJ5 ▸ fr.wr (by decide) f0
      exact fun h => fr.trans f3 (ih h)
theorem w_Model_findBelow {I : HI} {r : HI} : M_Model_findBelow I = some r → fr [93] I r := by
  unfold M_Model_findBelow
  have f0 : fr [93] I I := fr.refl
  refine kx_bind (fun p1 hp1 => ?_)
  have f1 : fr [93] I p1 := fr.trans f0 (fr.sub (by decide) (w_L_Model_findBelow_2 hp1))
  refine kx_bind (fun p2 hp2 => ?_)
  have f2 : fr [93] I p2 := fr.trans f1 (fr.sub (by decide) (w_L_Model_findBelow_27 hp2))
  intro h; have h := Option.some.inj h; subst h
  exact f2
theorem w_L_Model_countWays_11 {x1 : Int32} : ∀ {f : Nat} {x2 : Int32} {I : HI} {r : HI}, L_Model_countWays_11 x1 f x2 I = some r → fr [94, 95] I r := by
  intro f
  induction f with
  | zero => intro x2 I r h; rw [L_Model_countWays_11] at h; cases h
  | succ f ih =>
    intro x2 I r
    rw [L_Model_countWays_11]
    have f0 : fr [94, 95] I I := fr.refl
    refine kx_if (fun _ => ?_) (fun _ => ?_)
    · intro h; have h := Option.some.inj h; subst h
      exact f0
    · refine kx_if (fun _ => ?_) (fun _ => ?_)
      · refine kx_grd (fun b3 => ?_)
        refine kx_lti (fun J4 eJ4 => ?_)
        have f1 : fr [94, 95] I J4 := eJ4 ▸ fr.wr (by decide) f0
        refine kx_if (fun _ => ?_) (fun _ => ?_)
        · refine kx_lti (fun J6 eJ6 => ?_)
          have f2 : fr [94, 95] I J6 := eJ6 ▸ fr.wr (by decide) f1
          exact fun h => fr.trans f2 (ih h)
        · refine kx_lti (fun J7 eJ7 => ?_)
          have f3 : fr [94, 95] I J7 := eJ7 ▸ fr.wr (by decide) f1
          exact fun h => fr.trans f3 (ih h)
      · refine kx_grd (fun b8 => ?_)
        refine kx_lti (fun J9 eJ9 => ?_)
        have f4 : fr [94, 95] I J9 := eJ9 ▸ fr.wr (by decide) f0
        refine kx_if (fun _ => ?_) (fun _ => ?_)
        · refine kx_lti (fun J11 eJ11 => ?_)
          have f5 : fr [94, 95] I J11 := eJ11 ▸ fr.wr (by decide) f4
          exact fun h => fr.trans f5 (ih h)
        · refine kx_lti (fun J12 eJ12 => ?_)
          have f6 : fr [94, 95] I J12 := eJ12 ▸ fr.wr (by decide) f4
          exact fun h => fr.trans f6 (ih h)
theorem w_L_Model_countWays_62 {x1 : Int32} {x2 : Int32} : ∀ {f : Nat} {x3 : Int32} {I : HI} {r : HI}, L_Model_countWays_62 x1 x2 f x3 I = some r → fr [94] I r := by
  intro f
  induction f with
  | zero => intro x3 I r h; rw [L_Model_countWays_62] at h; cases h
  | succ f ih =>
    intro x3 I r
    rw [L_Model_countWays_62]
    have f0 : fr [94] I I := fr.refl
    refine kx_if (fun _ => ?_) (fun _ => ?_)
    · intro h; have h := Option.some.inj h; subst h
      exact f0
    · refine kx_bind (fun p2 hp2 => ?_)
      refine kx_if (fun _ => ?_) (fun _ => ?_)
      · exact fun h => fr.trans f0 (ih h)
      · refine kx_grd (fun b4 => ?_)
        refine kx_grd (fun b5 => ?_)
        refine kx_lti (fun J6 eJ6 => ?_)
        have f2 : fr [94] I J6 := eJ6 ▸ fr.wr (by decide) f0
        exact fun h => fr.trans f2 (ih h)
theorem w_L_Model_countWays_55 {x1 : Int32} : ∀ {f : Nat} {x2 : Int32} {I : HI} {r : HI}, L_Model_countWays_55 x1 f x2 I = some r → fr [94] I r := by
  intro f
  induction f with
  | zero => intro x2 I r h; rw [L_Model_countWays_55] at h; cases h
  | succ f ih =>
    intro x2 I r
    rw [L_Model_countWays_55]
    have f0 : fr [94] I I := fr.refl
    refine kx_if (fun _ => ?_) (fun _ => ?_)
    · intro h; have h := Option.some.inj h; subst h
      exact f0
    · refine kx_bind (fun p2 hp2 => ?_)
      have f1 : fr [94] I p2 := fr.trans f0 (fr.sub (by decide) (w_L_Model_countWays_62 hp2))
      exact fun h => fr.trans f1 (ih h)
theorem w_L_Model_countWays_120 {x2 : Int32} : ∀ {f : Nat} {x3 : Int32} {I : HI} {r : HI}, L_Model_countWays_120 x2 f x3 I = some r → fr [95] I r := by
  intro f
  induction f with
  | zero => intro x3 I r h; rw [L_Model_countWays_120] at h; cases h
  | succ f ih =>
    intro x3 I r
    rw [L_Model_countWays_120]
    have f0 : fr [95] I I := fr.refl
    refine kx_if (fun _ => ?_) (fun _ => ?_)
    · intro h; have h := Option.some.inj h; subst h
      exact f0
    · refine kx_bind (fun p2 hp2 => ?_)
      refine kx_if (fun _ => ?_) (fun _ => ?_)
      · exact fun h => fr.trans f0 (ih h)
      · refine kx_grd (fun b4 => ?_)
        refine kx_grd (fun b5 => ?_)
        refine kx_lti (fun J6 eJ6 => ?_)
        have f2 : fr [95] I J6 := eJ6 ▸ fr.wr (by decide) f0
        exact fun h => fr.trans f2 (ih h)
theorem w_L_Model_countWays_114 : ∀ {f : Nat} {x2 : Int32} {I : HI} {r : HI}, L_Model_countWays_114 f x2 I = some r → fr [95] I r := by
  intro f
  induction f with
  | zero => intro x2 I r h; rw [L_Model_countWays_114] at h; cases h
  | succ f ih =>
    intro x2 I r
    rw [L_Model_countWays_114]
    have f0 : fr [95] I I := fr.refl
    refine kx_if (fun _ => ?_) (fun _ => ?_)
    · intro h; have h := Option.some.inj h; subst h
      exact f0
    · refine kx_bind (fun p2 hp2 => ?_)
      have f1 : fr [95] I p2 := fr.trans f0 (fr.sub (by decide) (w_L_Model_countWays_120 hp2))
      exact fun h => fr.trans f1 (ih h)
theorem w_Model_countWays {I : HI} {r : HI} : M_Model_countWays I = some r → fr [93, 94, 95] I r := by
  unfold M_Model_countWays
  have f0 : fr [93, 94, 95] I I := fr.refl
  refine kx_bind (fun p1 hp1 => ?_)
  have f1 : fr [93, 94, 95] I p1 := fr.trans f0 (fr.sub (by decide) (w_Model_findBelow hp1))
  refine kx_bind (fun p2 hp2 => ?_)
  have f2 : fr [93, 94, 95] I p2 := fr.trans f1 (fr.sub (by decide) (w_L_Model_countWays_11 hp2))
  refine kx_bind (fun p3 hp3 => ?_)
  have f3 : fr [93, 94, 95] I p3 := fr.trans f2 (fr.sub (by decide) (w_L_Model_countWays_55 hp3))
  refine kx_bind (fun p4 hp4 => ?_)
  have f4 : fr [93, 94, 95] I p4 := fr.trans f3 (fr.sub (by decide) (w_L_Model_countWays_114 hp4))
  intro h; have h := Option.some.inj h; subst h
  exact f4
theorem w_Model_orders {I : HI} {r : Int32 × HI} : M_Model_orders I = some r → fr [93, 94, 95] I r.2 := by
  unfold M_Model_orders
  have f0 : fr [93, 94, 95] I I := fr.refl
  refine kx_bind (fun p1 hp1 => ?_)
  have f1 : fr [93, 94, 95] I p1 := fr.trans f0 (fr.sub (by decide) (w_Model_countWays hp1))
  refine kx_grd (fun b2 => ?_)
  intro h; have h := Option.some.inj h; subst h
  exact f1
theorem w_Model_sure {I : HI} {x1 : Int32} {x2 : Int32} {r : Int32 × HI} : M_Model_sure I x1 x2 = some r → fr [91, 93, 94, 95] I r.2 := by
  unfold M_Model_sure
  have f0 : fr [91, 93, 94, 95] I I := fr.refl
  refine kx_if (fun _ => ?_) (fun _ => ?_)
  · refine kx_bind (fun p2 hp2 => ?_)
    have f1 : fr [91, 93, 94, 95] I p2.2 := fr.trans f0 (fr.sub (by decide) (w_Model_finds hp2))
    intro h; have h := Option.some.inj h; subst h
    exact f1
  · refine kx_if (fun _ => ?_) (fun _ => ?_)
    · refine kx_bind (fun p4 hp4 => ?_)
      have f2 : fr [91, 93, 94, 95] I p4.2 := fr.trans f0 (fr.sub (by decide) (w_Model_finds hp4))
      intro h; have h := Option.some.inj h; subst h
      exact f2
    · refine kx_if (fun _ => ?_) (fun _ => ?_)
      · refine kx_bind (fun p6 hp6 => ?_)
        have f3 : fr [91, 93, 94, 95] I p6.2 := fr.trans f0 (fr.sub (by decide) (w_Model_finds hp6))
        intro h; have h := Option.some.inj h; subst h
        exact f3
      · refine kx_bind (fun p7 hp7 => ?_)
        have f4 : fr [91, 93, 94, 95] I p7 := fr.trans f0 (fr.sub (by decide) (w_Model_countWays hp7))
        refine kx_grd (fun b8 => ?_)
        refine kx_bind (fun p9 hp9 => ?_)
        refine kx_if (fun _ => ?_) (fun _ => ?_)
        · intro h; have h := Option.some.inj h; subst h
          exact f4
        · refine kx_if (fun _ => ?_) (fun _ => ?_)
          · intro h; have h := Option.some.inj h; subst h
            exact f4
          · refine kx_if (fun _ => ?_) (fun _ => ?_)
            · intro h; have h := Option.some.inj h; subst h
              exact f4
            · intro h; have h := Option.some.inj h; subst h
              exact f4
