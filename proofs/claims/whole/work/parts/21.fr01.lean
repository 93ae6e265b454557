theorem w_L_Model_costs_5 {x1 : Int32} {x2 : Int32} : ∀ {f : Nat} {x3 : Int32} {x4 : Int32} {I : HI} {r : Int32 × HI}, L_Model_costs_5 x1 x2 f x3 x4 I = some r → fr [88, 92] I r.2 := by
  intro f
  induction f with
  | zero => intro x3 x4 I r h; rw [L_Model_costs_5] at h; cases h
  | succ f ih =>
    intro x3 x4 I r
    rw [L_Model_costs_5]
    have f0 : fr [88, 92] I I := fr.refl
    refine kx_if (fun _ => ?_) (fun _ => ?_)
    · intro h; have h := Option.some.inj h; subst h
      exact f0
    · refine kx_bind (fun p2 hp2 => ?_)
      refine kx_if (fun _ => ?_) (fun _ => ?_)
      · refine kx_bind (fun p4 hp4 => ?_)
        refine kx_if (fun _ => ?_) (fun _ => ?_)
        · refine kx_bind (fun p6 hp6 => ?_)
          have f3 : fr [88, 92] I p6.2 := fr.trans f0 (fr.sub (by decide) (w_Model_weightOf hp6))
          exact fun h => fr.trans f3 (ih h)
        · exact fun h => fr.trans f0 (ih h)
      · exact fun h => fr.trans f0 (ih h)
theorem w_Model_costs {I : HI} {x1 : Int32} {x2 : Int32} {r : Int32 × HI} : M_Model_costs I x1 x2 = some r → fr [88, 92] I r.2 := by
  unfold M_Model_costs
  have f0 : fr [88, 92] I I := fr.refl
  refine kx_bind (fun p1 hp1 => ?_)
  have f1 : fr [88, 92] I p1.2 := fr.trans f0 (fr.sub (by decide) (w_L_Model_costs_5 hp1))
  intro h; have h := Option.some.inj h; subst h
  exact f1
theorem w_L_Model_findBest_30 {x2 : Int32} : ∀ {f : Nat} {x3 : Int32} {I : HI} {r : HI}, L_Model_findBest_30 x2 f x3 I = some r → fr [88, 92, 96] I r := by
  intro f
  induction f with
  | zero => intro x3 I r h; rw [L_Model_findBest_30] at h; cases h
  | succ f ih =>
    intro x3 I r
    rw [L_Model_findBest_30]
    have f0 : fr [88, 92, 96] I I := fr.refl
    refine kx_if (fun _ => ?_) (fun _ => ?_)
    · intro h; have h := Option.some.inj h; subst h
      exact f0
    · refine kx_if (fun _ => ?_) (fun _ => ?_)
      · refine kx_bind (fun p3 hp3 => ?_)
        have f1 : fr [88, 92, 96] I p3.2 := fr.trans f0 (fr.sub (by decide) (w_Model_costs hp3))
        refine kx_grd (fun b4 => ?_)
        refine kx_lti (fun y5 ey5 => ?_)
        refine kx_grd (fun b6 => ?_)
        refine kx_if (fun _ => ?_) (fun _ => ?_)
        · refine kx_lti (fun J8 eJ8 => ?_)
          have f3 : fr [88, 92, 96] I J8 := eJ8 ▸ fr.wr (by decide) f1
          exact fun h => fr.trans f3 (ih h)
        · refine kx_lti (fun J9 eJ9 => ?_)
          have f4 : fr [88, 92, 96] I J9 := eJ9 ▸ fr.wr (by decide) f1
          exact fun h => fr.trans f4 (ih h)
      · exact fun h => fr.trans f0 (ih h)
theorem w_L_Model_findBest_16 : ∀ {f : Nat} {x2 : Int32} {I : HI} {r : HI}, L_Model_findBest_16 f x2 I = some r → fr [88, 92, 96] I r := by
  intro f
  induction f with
  | zero => intro x2 I r h; rw [L_Model_findBest_16] at h; cases h
  | succ f ih =>
    intro x2 I r
    rw [L_Model_findBest_16]
    have f0 : fr [88, 92, 96] I I := fr.refl
    refine kx_if (fun _ => ?_) (fun _ => ?_)
    · intro h; have h := Option.some.inj h; subst h
      exact f0
    · refine kx_grd (fun b2 => ?_)
      refine kx_lti (fun J3 eJ3 => ?_)
      have f1 : fr [88, 92, 96] I J3 := eJ3 ▸ fr.wr (by decide) f0
      refine kx_bind (fun p4 hp4 => ?_)
      have f2 : fr [88, 92, 96] I p4 := fr.trans f1 (fr.sub (by decide) (w_L_Model_findBest_30 hp4))
      exact fun h => fr.trans f2 (ih h)
theorem w_L_Model_findBest_124 {x2 : Int32} {x3 : Int32} : ∀ {f : Nat} {x4 : Int32} {I : HI} {r : Int32 × HI}, L_Model_findBest_124 x2 x3 f x4 I = some r → fr [88, 92] I r.2 := by
  intro f
  induction f with
  | zero => intro x4 I r h; rw [L_Model_findBest_124] at h; cases h
  | succ f ih =>
    intro x4 I r
    rw [L_Model_findBest_124]
    have f0 : fr [88, 92] I I := fr.refl
    refine kx_if (fun _ => ?_) (fun _ => ?_)
    · exact fun h => fr.trans f0 (ih h)
    · refine kx_bind (fun p2 hp2 => ?_)
      have f1 : fr [88, 92] I p2.2 := fr.trans f0 (fr.sub (by decide) (w_Model_costs hp2))
      refine kx_grd (fun b3 => ?_)
      refine kx_grd (fun b4 => ?_)
      refine kx_if (fun _ => ?_) (fun _ => ?_)
      · intro h; have h := Option.some.inj h; subst h
        exact f1
      · exact fun h => fr.trans f1 (ih h)
theorem w_L_Model_findBest_111 : ∀ {f : Nat} {x2 : Int32} {x3 : Int32} {I : HI} {r : HI}, L_Model_findBest_111 f x2 x3 I = some r → fr [88, 92, 97] I r := by
  intro f
  induction f with
  | zero => intro x2 x3 I r h; rw [L_Model_findBest_111] at h; cases h
  | succ f ih =>
    intro x2 x3 I r
    rw [L_Model_findBest_111]
    have f0 : fr [88, 92, 97] I I := fr.refl
    refine kx_if (fun _ => ?_) (fun _ => ?_)
    · intro h; have h := Option.some.inj h; subst h
      exact f0
    · refine kx_bind (fun p2 hp2 => ?_)
      have f1 : fr [88, 92, 97] I p2.2 := fr.trans f0 (fr.sub (by decide) (w_L_Model_findBest_124 hp2))
      refine kx_grd (fun b3 => ?_)
      refine kx_lti (fun J4 eJ4 => ?_)
      have f2 : fr [88, 92, 97] I J4 := eJ4 ▸ fr.wr (by decide) f1
      exact fun h => fr.trans f2 (ih h)
theorem w_Model_findBest {I : HI} {r : Int32 × HI} : M_Model_findBest I = some r → fr [88, 92, 96, 97] I r.2 := by
  unfold M_Model_findBest
  have f0 : fr [88, 92, 96, 97] I I := fr.refl
  refine kx_grd (fun b1 => ?_)
  refine kx_lti (fun J2 eJ2 => ?_)
  have f1 : fr [88, 92, 96, 97] I J2 := eJ2 ▸ fr.wr (by decide) f0
  refine kx_bind (fun p3 hp3 => ?_)
  have f2 : fr [88, 92, 96, 97] I p3 := fr.trans f1 (fr.sub (by decide) (w_L_Model_findBest_16 hp3))
  refine kx_bind (fun p4 hp4 => ?_)
  have f3 : fr [88, 92, 96, 97] I p4 := fr.trans f2 (fr.sub (by decide) (w_L_Model_findBest_111 hp4))
  intro h; have h := Option.some.inj h; subst h
  exact f3
theorem w_Model_best {I : HI} {x1 : Int32} {r : Int32 × HI} : M_Model_best I x1 = some r → fr [88, 91, 92, 96, 97] I r.2 := by
  unfold M_Model_best
  have f0 : fr [88, 91, 92, 96, 97] I I := fr.refl
  refine kx_if (fun _ => ?_) (fun _ => ?_)
  · refine kx_bind (fun p2 hp2 => ?_)
    have f1 : fr [88, 91, 92, 96, 97] I p2.2 := fr.trans f0 (fr.sub (by decide) (w_Model_finds hp2))
    intro h; have h := Option.some.inj h; subst h
    exact f1
  · refine kx_bind (fun p3 hp3 => ?_)
    have f2 : fr [88, 91, 92, 96, 97] I p3.2 := fr.trans f0 (fr.sub (by decide) (w_Model_findBest hp3))
    refine kx_grd (fun b4 => ?_)
    intro h; have h := Option.some.inj h; subst h
    exact f2
theorem w_L_Model_findYears_2 : ∀ {f : Nat} {x1 : Int32} {I : HI} {r : HI}, L_Model_findYears_2 f x1 I = some r → fr [88, 92, 98, 99] I r := by
  intro f
  induction f with
  | zero => intro x1 I r h; rw [L_Model_findYears_2] at h; cases h
  | succ f ih =>
    intro x1 I r
    rw [L_Model_findYears_2]
    have f0 : fr [88, 92, 98, 99] I I := fr.refl
    refine kx_if (fun _ => ?_) (fun _ => ?_)
    · intro h; have h := Option.some.inj h; subst h
      exact f0
    · refine kx_bind (fun p2 hp2 => ?_)
      have f1 : fr [88, 92, 98, 99] I p2.2 := fr.trans f0 (fr.sub (by decide) (w_Model_earlyOf hp2))
      refine kx_grd (fun b3 => ?_)
      refine kx_lti (fun J4 eJ4 => ?_)
      have f2 : fr [88, 92, 98, 99] I J4 := eJ4 ▸ fr.wr (by decide) f1
      refine kx_bind (fun p5 hp5 => ?_)
      have f3 : fr [88, 92, 98, 99] I p5.2 := fr.trans f2 (fr.sub (by decide) (w_Model_lateOf hp5))
      refine kx_lti (fun J6 eJ6 => ?_)
      have f4 : fr [88, 92, 98, 99] I J6 := eJ6 ▸ fr.wr (by decide) f3
      exact fun h => fr.trans f4 (ih h)
theorem w_Model_findYears {I : HI} {r : HI} : M_Model_findYears I = some r → fr [88, 92, 98, 99] I r := by
  unfold M_Model_findYears
  have f0 : fr [88, 92, 98, 99] I I := fr.refl
  refine kx_bind (fun p1 hp1 => ?_)
  have f1 : fr [88, 92, 98, 99] I p1 := fr.trans f0 (fr.sub (by decide) (w_L_Model_findYears_2 hp1))
  intro h; have h := Option.some.inj h; subst h
  exact f1
theorem w_L_Model_pushes_18 {x2 : Int32} : ∀ {f : Nat} {x1 : Int32} {x3 : Int32} {I : HI} {r : Int32 × HI}, L_Model_pushes_18 x2 f x1 x3 I = some r → fr [98, 99] I r.2 := by
  intro f
  induction f with
  | zero => intro x1 x3 I r h; rw [L_Model_pushes_18] at h; cases h
  | succ f ih =>
    intro x1 x3 I r
    rw [L_Model_pushes_18]
    have f0 : fr [98, 99] I I := fr.refl
    refine kx_if (fun _ => ?_) (fun _ => ?_)
    · intro h; have h := Option.some.inj h; subst h
      exact f0
    · refine kx_bind (fun p2 hp2 => ?_)
      refine kx_grd (fun b3 => ?_)
      refine kx_bind (fun p4 hp4 => ?_)
      refine kx_grd (fun b5 => ?_)
      refine kx_if (fun _ => ?_) (fun _ => ?_)
      · refine kx_bind (fun p7 hp7 => ?_)
        refine kx_grd (fun b8 => ?_)
        refine kx_bind (fun p9 hp9 => ?_)
        refine kx_grd (fun b10 => ?_)
        refine kx_if (fun _ => ?_) (fun _ => ?_)
        · exact fun h => fr.trans f0 (ih h)
        · refine kx_bind (fun p12 hp12 => ?_)
          refine kx_bind (fun p13 hp13 => ?_)
          refine kx_grd (fun b14 => ?_)
          refine kx_grd (fun b15 => ?_)
          refine kx_lti (fun J16 eJ16 => ?_)
          have f7 : fr [98, 99] I J16 := eJ16 ▸ fr.wr (by decide) f0
          exact fun h => fr.trans f7 (ih h)
      · refine kx_bind (fun p17 hp17 => ?_)
        refine kx_bind (fun p18 hp18 => ?_)
        refine kx_grd (fun b19 => ?_)
        refine kx_grd (fun b20 => ?_)
        refine kx_lti (fun J21 eJ21 => ?_)
        have f10 : fr [98, 99] I J21 := eJ21 ▸ fr.wr (by decide) f0
        refine kx_bind (fun p22 hp22 => ?_)
        refine kx_grd (fun b23 => ?_)
        refine kx_bind (fun p24 hp24 => ?_)
        refine kx_grd (fun b25 => ?_)
        refine kx_if (fun _ => ?_) (fun _ => ?_)
        · exact fun h => fr.trans f10 (ih h)
        · refine kx_bind (fun p27 hp27 => ?_)
          refine kx_bind (fun p28 hp28 => ?_)
          refine kx_grd (fun b29 => ?_)
          refine kx_grd (fun b30 => ?_)
          refine kx_lti (fun J31 eJ31 => ?_)
          have f15 : fr [98, 99] I J31 := eJ31 ▸ fr.wr (by decide) f10
          exact fun h => fr.trans f15 (ih h)
theorem w_L_Model_pushes_4 : ∀ {f : Nat} {x1 : Int32} {x2 : Int32} {I : HI} {r : Int32 × HI}, L_Model_pushes_4 f x1 x2 I = some r → fr [98, 99] I r.2 := by
  intro f
  induction f with
  | zero => intro x1 x2 I r h; rw [L_Model_pushes_4] at h; cases h
  | succ f ih =>
    intro x1 x2 I r
    rw [L_Model_pushes_4]
    have f0 : fr [98, 99] I I := fr.refl
    refine kx_if (fun _ => ?_) (fun _ => ?_)
    · intro h; have h := Option.some.inj h; subst h
      exact f0
    · refine kx_if (fun _ => ?_) (fun _ => ?_)
      · intro h; have h := Option.some.inj h; subst h
        exact f0
      · refine kx_bind (fun p3 hp3 => ?_)
        have f1 : fr [98, 99] I p3.2 := fr.trans f0 (fr.sub (by decide) (w_L_Model_pushes_18 hp3))
        exact fun h => fr.trans f1 (ih h)
theorem w_Model_pushes {I : HI} {r : Int32 × HI} : M_Model_pushes I = some r → fr [98, 99] I r.2 := by
  unfold M_Model_pushes
  have f0 : fr [98, 99] I I := fr.refl
  refine kx_bind (fun p1 hp1 => ?_)
  have f1 : fr [98, 99] I p1.2 := fr.trans f0 (fr.sub (by decide) (w_L_Model_pushes_4 hp1))
  refine kx_bind (fun p2 hp2 => ?_)
  refine kx_if (fun _ => ?_) (fun _ => ?_)
  · intro h; have h := Option.some.inj h; subst h
    exact f1
  · refine kx_if (fun _ => ?_) (fun _ => ?_)
    · intro h; have h := Option.some.inj h; subst h
      exact f1
    · intro h; have h := Option.some.inj h; subst h
      exact f1
theorem w_Model_span {I : HI} {x1 : Int32} {x2 : Int32} {r : Int32 × HI} : M_Model_span I x1 x2 = some r → fr [88, 91, 92, 98, 99] I r.2 := by
  unfold M_Model_span
  have f0 : fr [88, 91, 92, 98, 99] I I := fr.refl
  refine kx_if (fun _ => ?_) (fun _ => ?_)
  · refine kx_bind (fun p2 hp2 => ?_)
    have f1 : fr [88, 91, 92, 98, 99] I p2.2 := fr.trans f0 (fr.sub (by decide) (w_Model_finds hp2))
    intro h; have h := Option.some.inj h; subst h
    exact f1
  · refine kx_if (fun _ => ?_) (fun _ => ?_)
    · refine kx_bind (fun p4 hp4 => ?_)
      have f2 : fr [88, 91, 92, 98, 99] I p4.2 := fr.trans f0 (fr.sub (by decide) (w_Model_finds hp4))
      intro h; have h := Option.some.inj h; subst h
      exact f2
    · refine kx_bind (fun p5 hp5 => ?_)
      have f3 : fr [88, 91, 92, 98, 99] I p5 := fr.trans f0 (fr.sub (by decide) (w_Model_findYears hp5))
      refine kx_bind (fun p6 hp6 => ?_)
      have f4 : fr [88, 91, 92, 98, 99] I p6.2 := fr.trans f3 (fr.sub (by decide) (w_Model_pushes hp6))
      refine kx_if (fun _ => ?_) (fun _ => ?_)
      · refine kx_bind (fun p8 hp8 => ?_)
        have f5 : fr [88, 91, 92, 98, 99] I p8.2 := fr.trans f4 (fr.sub (by decide) (w_Model_finds hp8))
        intro h; have h := Option.some.inj h; subst h
        exact f5
      · refine kx_if (fun _ => ?_) (fun _ => ?_)
        · refine kx_grd (fun b10 => ?_)
          intro h; have h := Option.some.inj h; subst h
          exact f4
        · refine kx_grd (fun b11 => ?_)
          intro h; have h := Option.some.inj h; subst h
          exact f4
theorem w_Model_widthBy {I : HI} {x1 : Int32} {x2 : Int32} {r : Int32 × HI} : M_Model_widthBy I x1 x2 = some r → fr [88, 92, 98, 99] I r.2 := by
  unfold M_Model_widthBy
  have f0 : fr [88, 92, 98, 99] I I := fr.refl
  refine kx_bind (fun p1 hp1 => ?_)
  have f1 : fr [88, 92, 98, 99] I p1 := fr.trans f0 (fr.sub (by decide) (w_Model_findYears hp1))
  refine kx_grd (fun b2 => ?_)
  refine kx_lti (fun J3 eJ3 => ?_)
  have f2 : fr [88, 92, 98, 99] I J3 := eJ3 ▸ fr.wr (by decide) f1
  refine kx_lti (fun J4 eJ4 => ?_)
  have f3 : fr [88, 92, 98, 99] I J4 := eJ4 ▸ fr.wr (by decide) f2
  refine kx_bind (fun p5 hp5 => ?_)
  have f4 : fr [88, 92, 98, 99] I p5.2 := fr.trans f3 (fr.sub (by decide) (w_Model_pushes hp5))
  refine kx_if (fun _ => ?_) (fun _ => ?_)
  · intro h; have h := Option.some.inj h; subst h
    exact f4
  · refine kx_bind (fun p7 hp7 => ?_)
    intro h; have h := Option.some.inj h; subst h
    exact f4
theorem w_Model_test {I : HI} {x1 : Int32} {x2 : Int32} {r : Int32 × HI} : M_Model_test I x1 x2 = some r → fr [88, 91, 92, 98, 99] I r.2 := by
  unfold M_Model_test
  have f0 : fr [88, 91, 92, 98, 99] I I := fr.refl
  refine kx_if (fun _ => ?_) (fun _ => ?_)
  · refine kx_bind (fun p2 hp2 => ?_)
    have f1 : fr [88, 91, 92, 98, 99] I p2.2 := fr.trans f0 (fr.sub (by decide) (w_Model_finds hp2))
    intro h; have h := Option.some.inj h; subst h
    exact f1
  · refine kx_if (fun _ => ?_) (fun _ => ?_)
    · refine kx_bind (fun p4 hp4 => ?_)
      have f2 : fr [88, 91, 92, 98, 99] I p4.2 := fr.trans f0 (fr.sub (by decide) (w_Model_finds hp4))
      intro h; have h := Option.some.inj h; subst h
      exact f2
    · refine kx_bind (fun p5 hp5 => ?_)
      have f3 : fr [88, 91, 92, 98, 99] I p5.2 := fr.trans f0 (fr.sub (by decide) (w_Model_widthBy hp5))
      refine kx_if (fun _ => ?_) (fun _ => ?_)
      · intro h; have h := Option.some.inj h; subst h
        exact f3
      · refine kx_bind (fun p7 hp7 => ?_)
        have f4 : fr [88, 91, 92, 98, 99] I p7.2 := fr.trans f3 (fr.sub (by decide) (w_Model_finds hp7))
        intro h; have h := Option.some.inj h; subst h
        exact f4
theorem w_Model_worstOf {I : HI} {x1 : Int32} {r : Int32 × HI} : M_Model_worstOf I x1 = some r → fr [88, 92, 98, 99] I r.2 := by
  unfold M_Model_worstOf
  have f0 : fr [88, 92, 98, 99] I I := fr.refl
  refine kx_bind (fun p1 hp1 => ?_)
  have f1 : fr [88, 92, 98, 99] I p1 := fr.trans f0 (fr.sub (by decide) (w_Model_findYears hp1))
  refine kx_bind (fun p2 hp2 => ?_)
  have f2 : fr [88, 92, 98, 99] I p2.2 := fr.trans f1 (fr.sub (by decide) (w_Model_pushes hp2))
  refine kx_grd (fun b3 => ?_)
  refine kx_bind (fun p4 hp4 => ?_)
  have f3 : fr [88, 92, 98, 99] I p4.2 := fr.trans f2 (fr.sub (by decide) (w_Model_widthBy hp4))
  refine kx_bind (fun p5 hp5 => ?_)
  have f4 : fr [88, 92, 98, 99] I p5.2 := fr.trans f3 (fr.sub (by decide) (w_Model_widthBy hp5))
  refine kx_bind (fun p6 hp6 => ?_)
  have f5 : fr [88, 92, 98, 99] I p6.2 := fr.trans f4 (fr.sub (by decide) (w_Model_widthBy hp6))
  refine kx_if (fun _ => ?_) (fun _ => ?_)
  · refine kx_if (fun _ => ?_) (fun _ => ?_)
    · intro h; have h := Option.some.inj h; subst h
      exact f5
    · intro h; have h := Option.some.inj h; subst h
      exact f5
  · refine kx_if (fun _ => ?_) (fun _ => ?_)
    · intro h; have h := Option.some.inj h; subst h
      exact f5
    · intro h; have h := Option.some.inj h; subst h
      exact f5
theorem w_L_Model_next_49 {x1 : Int32} : ∀ {f : Nat} {x2 : Int32} {x3 : Int32} {x4 : Int32} {I : HI} {r : Int32 × Int32 × HI}, L_Model_next_49 x1 f x2 x3 x4 I = some r → fr [88, 92, 98, 99] I r.2.2 := by
  intro f
  induction f with
  | zero => intro x2 x3 x4 I r h; rw [L_Model_next_49] at h; cases h
  | succ f ih =>
    intro x2 x3 x4 I r
    rw [L_Model_next_49]
    have f0 : fr [88, 92, 98, 99] I I := fr.refl
    refine kx_if (fun _ => ?_) (fun _ => ?_)
    · intro h; have h := Option.some.inj h; subst h
      exact f0
    · refine kx_bind (fun p2 hp2 => ?_)
      have f1 : fr [88, 92, 98, 99] I p2.2 := fr.trans f0 (fr.sub (by decide) (w_Model_worstOf hp2))
      refine kx_if (fun _ => ?_) (fun _ => ?_)
      · exact fun h => fr.trans f1 (ih h)
      · refine kx_if (fun _ => ?_) (fun _ => ?_)
        · exact fun h => fr.trans f1 (ih h)
        · exact fun h => fr.trans f1 (ih h)
theorem w_Model_next {I : HI} {x1 : Int32} {r : Int32 × HI} : M_Model_next I x1 = some r → fr [88, 91, 92, 98, 99] I r.2 := by
  unfold M_Model_next
  have f0 : fr [88, 91, 92, 98, 99] I I := fr.refl
  refine kx_if (fun _ => ?_) (fun _ => ?_)
  · refine kx_bind (fun p2 hp2 => ?_)
    have f1 : fr [88, 91, 92, 98, 99] I p2.2 := fr.trans f0 (fr.sub (by decide) (w_Model_finds hp2))
    intro h; have h := Option.some.inj h; subst h
    exact f1
  · refine kx_bind (fun p3 hp3 => ?_)
    have f2 : fr [88, 91, 92, 98, 99] I p3 := fr.trans f0 (fr.sub (by decide) (w_Model_findYears hp3))
    refine kx_if (fun _ => ?_) (fun _ => ?_)
    · refine kx_bind (fun p5 hp5 => ?_)
      have f3 : fr [88, 91, 92, 98, 99] I p5.2 := fr.trans f2 (fr.sub (by decide) (w_Model_finds hp5))
      intro h; have h := Option.some.inj h; subst h
      exact f3
    · refine kx_bind (fun p6 hp6 => ?_)
      have f4 : fr [88, 91, 92, 98, 99] I p6.2 := fr.trans f2 (fr.sub (by decide) (w_Model_pushes hp6))
      refine kx_if (fun _ => ?_) (fun _ => ?_)
      · refine kx_bind (fun p8 hp8 => ?_)
        have f5 : fr [88, 91, 92, 98, 99] I p8.2 := fr.trans f4 (fr.sub (by decide) (w_Model_finds hp8))
        intro h; have h := Option.some.inj h; subst h
        exact f5
      · refine kx_bind (fun p9 hp9 => ?_)
        have f6 : fr [88, 91, 92, 98, 99] I p9.2.2 := fr.trans f4 (fr.sub (by decide) (w_L_Model_next_49 hp9))
        refine kx_if (fun _ => ?_) (fun _ => ?_)
        · intro h; have h := Option.some.inj h; subst h
          exact f6
        · intro h; have h := Option.some.inj h; subst h
          exact f6
theorem w_Model_join {I : HI} {x1 : Int32} {x2 : Int32} {r : Int32 × HI} : M_Model_join I x1 x2 = some r → fr [91] I r.2 := by
  unfold M_Model_join
  have f0 : fr [91] I I := fr.refl
  refine kx_if (fun _ => ?_) (fun _ => ?_)
  · refine kx_bind (fun p2 hp2 => ?_)
    have f1 : fr [91] I p2.2 := fr.trans f0 (fr.sub (by decide) (w_Model_finds hp2))
    intro h; have h := Option.some.inj h; subst h
    exact f1
  · refine kx_if (fun _ => ?_) (fun _ => ?_)
    · refine kx_bind (fun p4 hp4 => ?_)
      have f2 : fr [91] I p4.2 := fr.trans f0 (fr.sub (by decide) (w_Model_finds hp4))
      intro h; have h := Option.some.inj h; subst h
      exact f2
    · refine kx_if (fun _ => ?_) (fun _ => ?_)
      · refine kx_bind (fun p6 hp6 => ?_)
        have f3 : fr [91] I p6.2 := fr.trans f0 (fr.sub (by decide) (w_Model_finds hp6))
        intro h; have h := Option.some.inj h; subst h
        exact f3
      · refine kx_bind (fun p7 hp7 => ?_)
        refine kx_if (fun _ => ?_) (fun _ => ?_)
        · intro h; have h := Option.some.inj h; subst h
          exact f0
        · intro h; have h := Option.some.inj h; subst h
          exact f0
theorem w_L_Model_joinings_74 {x1 : Int32} {x2 : Int32} {x3 : Int32} : ∀ {f : Nat} {x4 : Int32} {I : HI} {r : HI}, L_Model_joinings_74 x1 x2 x3 f x4 I = some r → fr [96, 101] I r := by
  intro f
  induction f with
  | zero => intro x4 I r h; rw [L_Model_joinings_74] at h; cases h
  | succ f ih =>
    intro x4 I r
    rw [L_Model_joinings_74]
    have f0 : fr [96, 101] I I := fr.refl
    refine kx_if (fun _ => ?_) (fun _ => ?_)
    · intro h; have h := Option.some.inj h; subst h
      exact f0
    · refine kx_if (fun _ => ?_) (fun _ => ?_)
      · exact fun h => fr.trans f0 (ih h)
      · refine kx_grd (fun b3 => ?_)
        refine kx_if (fun _ => ?_) (fun _ => ?_)
        · exact fun h => fr.trans f0 (ih h)
        · refine kx_grd (fun b5 => ?_)
          refine kx_grd (fun b6 => ?_)
          refine kx_lti (fun J7 eJ7 => ?_)
          have f1 : fr [96, 101] I J7 := eJ7 ▸ fr.wr (by decide) f0
          refine kx_if (fun _ => ?_) (fun _ => ?_)
          · refine kx_lti (fun J9 eJ9 => ?_)
            have f2 : fr [96, 101] I J9 := eJ9 ▸ fr.wr (by decide) f1
            exact fun h => fr.trans f2 (ih h)
          · refine kx_lti (fun J10 eJ10 => ?_)
            have f3 : fr [96, 101] I J10 := eJ10 ▸ fr.wr (by decide) f1
            exact fun h => fr.trans f3 (ih h)
theorem w_L_Model_joinings_32 {x1 : Int32} : ∀ {f : Nat} {x2 : Int32} {I : HI} {r : HI}, L_Model_joinings_32 x1 f x2 I = some r → fr [96, 100, 101] I r := by
  intro f
  induction f with
  | zero => intro x2 I r h; rw [L_Model_joinings_32] at h; cases h
  | succ f ih =>
    intro x2 I r
    rw [L_Model_joinings_32]
    have f0 : fr [96, 100, 101] I I := fr.refl
    refine kx_if (fun _ => ?_) (fun _ => ?_)
    · intro h; have h := Option.some.inj h; subst h
      exact f0
    · refine kx_bind (fun p2 hp2 => ?_)
      refine kx_grd (fun _ => ?_)
      refine kx_grd (fun b4 => ?_)
      refine kx_lti (fun J5 eJ5 => ?_)
      have f2 : fr [96, 100, 101] I J5 := eJ5 ▸ fr.wr (by decide) f0
      refine kx_lti (fun J6 eJ6 => ?_)
      have f3 : fr [96, 100, 101] I J6 := eJ6 ▸ fr.wr (by decide) f2
      refine kx_lti (fun J7 eJ7 => ?_)
      have f4 : fr [96, 100, 101] I J7 := eJ7 ▸ fr.wr (by decide) f3
      refine kx_bind (fun p8 hp8 => ?_)
      have f5 : fr [96, 100, 101] I p8 := fr.trans f4 (fr.sub (by decide) (w_L_Model_joinings_74 hp8))
      exact fun h => fr.trans f5 (ih h)
theorem w_Model_joinings {I : HI} {x1 : Int32} {r : Int32 × HI} : M_Model_joinings I x1 = some r → fr [91, 96, 100, 101] I r.2 := by
  unfold M_Model_joinings
  have f0 : fr [91, 96, 100, 101] I I := fr.refl
  refine kx_if (fun _ => ?_) (fun _ => ?_)
  · refine kx_bind (fun p2 hp2 => ?_)
    have f1 : fr [91, 96, 100, 101] I p2.2 := fr.trans f0 (fr.sub (by decide) (w_Model_finds hp2))
    intro h; have h := Option.some.inj h; subst h
    exact f1
  · refine kx_lti (fun J3 eJ3 => ?_)
    have f2 : fr [91, 96, 100, 101] I J3 := eJ3 ▸ fr.wr (by decide) f0
    refine kx_lti (fun J4 eJ4 => ?_)
    have f3 : fr [91, 96, 100, 101] I J4 := eJ4 ▸ fr.wr (by decide) f2
    refine kx_bind (fun p5 hp5 => ?_)
    have f4 : fr [91, 96, 100, 101] I p5 := fr.trans f3 (fr.sub (by decide) (w_L_Model_joinings_32 hp5))
    refine kx_if (fun _ => ?_) (fun _ => ?_)
    · refine kx_grd (fun b7 => ?_)
      intro h; have h := Option.some.inj h; subst h
      exact f4
    · refine kx_grd (fun b8 => ?_)
      intro h; have h := Option.some.inj h; subst h
      exact f4
theorem w_L_Model_times_59 {x1 : Int32} {x2 : Int32} {x3 : Int32} {x4 : Int32} : ∀ {f : Nat} {x5 : Int32} {I : HI} {r : HI}, L_Model_times_59 x1 x2 x3 x4 f x5 I = some r → fr [96] I r := by
  intro f
  induction f with
  | zero => intro x5 I r h; rw [L_Model_times_59] at h; cases h
  | succ f ih =>
    intro x5 I r
    rw [L_Model_times_59]
    have f0 : fr [96] I I := fr.refl
    refine kx_if (fun _ => ?_) (fun _ => ?_)
    · intro h; have h := Option.some.inj h; subst h
      exact f0
    · refine kx_bind (fun p2 hp2 => ?_)
      refine kx_if (fun _ => ?_) (fun _ => ?_)
      · exact fun h => fr.trans f0 (ih h)
      · refine kx_grd (fun b4 => ?_)
        refine kx_grd (fun b5 => ?_)
        refine kx_if (fun _ => ?_) (fun _ => ?_)
        · refine kx_lti (fun J7 eJ7 => ?_)
          have f2 : fr [96] I J7 := eJ7 ▸ fr.wr (by decide) f0
          exact fun h => fr.trans f2 (ih h)
        · refine kx_lti (fun J8 eJ8 => ?_)
          have f3 : fr [96] I J8 := eJ8 ▸ fr.wr (by decide) f0
          exact fun h => fr.trans f3 (ih h)
theorem w_L_Model_times_36 {x1 : Int32} {x2 : Int32} : ∀ {f : Nat} {x3 : Int32} {I : HI} {r : HI}, L_Model_times_36 x1 x2 f x3 I = some r → fr [96] I r := by
  intro f
  induction f with
  | zero => intro x3 I r h; rw [L_Model_times_36] at h; cases h
  | succ f ih =>
    intro x3 I r
    rw [L_Model_times_36]
    have f0 : fr [96] I I := fr.refl
    refine kx_if (fun _ => ?_) (fun _ => ?_)
    · intro h; have h := Option.some.inj h; subst h
      exact f0
    · refine kx_grd (fun b2 => ?_)
      refine kx_lti (fun J3 eJ3 => ?_)
      have f1 : fr [96] I J3 := eJ3 ▸ fr.wr (by decide) f0
      refine kx_bind (fun p4 hp4 => ?_)
      have f2 : fr [96] I p4 := fr.trans f1 (fr.sub (by decide) (w_L_Model_times_59 hp4))
      exact fun h => fr.trans f2 (ih h)
theorem w_Model_times {I : HI} {x1 : Int32} {r : Int32 × HI} : M_Model_times I x1 = some r → fr [91, 93, 96] I r.2 := by
  unfold M_Model_times
  have f0 : fr [91, 93, 96] I I := fr.refl
  refine kx_if (fun _ => ?_) (fun _ => ?_)
  · refine kx_bind (fun p2 hp2 => ?_)
    have f1 : fr [91, 93, 96] I p2.2 := fr.trans f0 (fr.sub (by decide) (w_Model_finds hp2))
    intro h; have h := Option.some.inj h; subst h
    exact f1
  · refine kx_bind (fun p3 hp3 => ?_)
    have f2 : fr [91, 93, 96] I p3 := fr.trans f0 (fr.sub (by decide) (w_Model_findBelow hp3))
    refine kx_grd (fun b4 => ?_)
    refine kx_lti (fun J5 eJ5 => ?_)
    have f3 : fr [91, 93, 96] I J5 := eJ5 ▸ fr.wr (by decide) f2
    refine kx_bind (fun p6 hp6 => ?_)
    have f4 : fr [91, 93, 96] I p6 := fr.trans f3 (fr.sub (by decide) (w_L_Model_times_36 hp6))
    refine kx_if (fun _ => ?_) (fun _ => ?_)
    · refine kx_if (fun _ => ?_) (fun _ => ?_)
      · refine kx_bind (fun p9 hp9 => ?_)
        refine kx_if (fun _ => ?_) (fun _ => ?_)
        · intro h; have h := Option.some.inj h; subst h
          exact f4
        · intro h; have h := Option.some.inj h; subst h
          exact f4
      · refine kx_bind (fun p11 hp11 => ?_)
        refine kx_if (fun _ => ?_) (fun _ => ?_)
        · intro h; have h := Option.some.inj h; subst h
          exact f4
        · intro h; have h := Option.some.inj h; subst h
          exact f4
    · refine kx_bind (fun p13 hp13 => ?_)
      have f7 : fr [91, 93, 96] I p13.2 := fr.trans f4 (fr.sub (by decide) (w_Model_finds hp13))
      intro h; have h := Option.some.inj h; subst h
      exact f7
theorem w_Model_lamp {I : HI} {x1 : Int32} {x2 : Int32} {r : Int32 × HI} : M_Model_lamp I x1 x2 = some r → fr [91] I r.2 := by
  unfold M_Model_lamp
  have f0 : fr [91] I I := fr.refl
  refine kx_if (fun _ => ?_) (fun _ => ?_)
  · refine kx_bind (fun p2 hp2 => ?_)
    have f1 : fr [91] I p2.2 := fr.trans f0 (fr.sub (by decide) (w_Model_finds hp2))
    intro h; have h := Option.some.inj h; subst h
    exact f1
  · refine kx_if (fun _ => ?_) (fun _ => ?_)
    · refine kx_bind (fun p4 hp4 => ?_)
      have f2 : fr [91] I p4.2 := fr.trans f0 (fr.sub (by decide) (w_Model_finds hp4))
      intro h; have h := Option.some.inj h; subst h
      exact f2
    · refine kx_bind (fun p5 hp5 => ?_)
      intro h; have h := Option.some.inj h; subst h
      exact f0
theorem w_Model_hand {I : HI} {x1 : Int32} {r : Int32 × HI} : M_Model_hand I x1 = some r → fr [91] I r.2 := by
  unfold M_Model_hand
  have f0 : fr [91] I I := fr.refl
  refine kx_if (fun _ => ?_) (fun _ => ?_)
  · refine kx_bind (fun p2 hp2 => ?_)
    have f1 : fr [91] I p2.2 := fr.trans f0 (fr.sub (by decide) (w_Model_finds hp2))
    intro h; have h := Option.some.inj h; subst h
    exact f1
  · refine kx_bind (fun p3 hp3 => ?_)
    intro h; have h := Option.some.inj h; subst h
    exact f0
theorem w_Model_drawn {I : HI} {r : Int32 × HI} : M_Model_drawn I = r → fr [89] I r.2 := by
  unfold M_Model_drawn
  have f0 : fr [89] I I := fr.refl
  refine kx_lti (fun J1 eJ1 => ?_)
  have f1 : fr [89] I J1 := eJ1 ▸ fr.wr (by decide) f0
  rintro rfl
  exact f1
theorem w_L_Model_again_4 : ∀ {f : Nat} {x1 : Int32} {x2 : Int32} {I : HI} {r : Int32 × HI}, L_Model_again_4 f x1 x2 I = some r → fr [89] I r.2 := by
  intro f
  induction f with
  | zero => intro x1 x2 I r h; rw [L_Model_again_4] at h; cases h
  | succ f ih =>
    intro x1 x2 I r
    rw [L_Model_again_4]
    have f0 : fr [89] I I := fr.refl
    refine kx_if (fun _ => ?_) (fun _ => ?_)
    · intro h; have h := Option.some.inj h; subst h
      exact f0
    · refine kx_lti (fun p2 hp2 => ?_)
      have f1 : fr [89] I p2.2 := fr.trans f0 (fr.sub (by decide) (w_Model_drawn hp2))
      refine kx_grd (fun b3 => ?_)
      refine kx_if (fun _ => ?_) (fun _ => ?_)
      · exact fun h => fr.trans f1 (ih h)
      · refine kx_bind (fun p5 hp5 => ?_)
        refine kx_bind (fun p6 hp6 => ?_)
        refine kx_grd (fun b7 => ?_)
        refine kx_lti (fun J8 eJ8 => ?_)
        have f4 : fr [89] I J8 := eJ8 ▸ fr.wr (by decide) f1
        refine kx_grd (fun b9 => ?_)
        refine kx_lti (fun J10 eJ10 => ?_)
        have f5 : fr [89] I J10 := eJ10 ▸ fr.wr (by decide) f4
        exact fun h => fr.trans f5 (ih h)
theorem w_Model_again {I : HI} {r : Int32 × HI} : M_Model_again I = some r → fr [89] I r.2 := by
  unfold M_Model_again
  have f0 : fr [89] I I := fr.refl
  refine kx_bind (fun p1 hp1 => ?_)
  have f1 : fr [89] I p1.2 := fr.trans f0 (fr.sub (by decide) (w_L_Model_again_4 hp1))
  intro h; have h := Option.some.inj h; subst h
  exact f1
theorem w_Model_seed {I : HI} {x1 : Int32} {r : Int32 × HI} : M_Model_seed I x1 = r → fr [89] I r.2 := by
  unfold M_Model_seed
  have f0 : fr [89] I I := fr.refl
  refine kx_lti (fun J1 eJ1 => ?_)
  have f1 : fr [89] I J1 := eJ1 ▸ fr.wr (by decide) f0
  rintro rfl
  exact f1
theorem w_Model_voice {I : HI} {x1 : Int32} {x2 : Int32} {x3 : Int32} {r : Int32 × HI} : M_Model_voice I x1 x2 x3 = some r → fr [88, 91, 102] I r.2 := by
  unfold M_Model_voice
  have f0 : fr [88, 91, 102] I I := fr.refl
  refine kx_if (fun _ => ?_) (fun _ => ?_)
  · refine kx_bind (fun p2 hp2 => ?_)
    have f1 : fr [88, 91, 102] I p2.2 := fr.trans f0 (fr.sub (by decide) (w_Model_finds hp2))
    intro h; have h := Option.some.inj h; subst h
    exact f1
  · refine kx_if (fun _ => ?_) (fun _ => ?_)
    · refine kx_bind (fun p4 hp4 => ?_)
      have f2 : fr [88, 91, 102] I p4.2 := fr.trans f0 (fr.sub (by decide) (w_Model_finds hp4))
      intro h; have h := Option.some.inj h; subst h
      exact f2
    · refine kx_lti (fun J5 eJ5 => ?_)
      have f3 : fr [88, 91, 102] I J5 := eJ5 ▸ fr.wr (by decide) f0
      refine kx_lti (fun J6 eJ6 => ?_)
      have f4 : fr [88, 91, 102] I J6 := eJ6 ▸ fr.wr (by decide) f3
      refine kx_bind (fun p7 hp7 => ?_)
      refine kx_if (fun _ => ?_) (fun _ => ?_)
      · refine kx_bind (fun p9 hp9 => ?_)
        have f6 : fr [88, 91, 102] I p9.2 := fr.trans f4 (fr.sub (by decide) (w_Model_draws (w_U_draws 4) hp9))
        intro h; have h := Option.some.inj h; subst h
        exact f6
      · refine kx_if (fun _ => ?_) (fun _ => ?_)
        · refine kx_bind (fun p11 hp11 => ?_)
          have f7 : fr [88, 91, 102] I p11.2 := fr.trans f4 (fr.sub (by decide) (w_Model_dries (w_U_dries 4) hp11))
          intro h; have h := Option.some.inj h; subst h
          exact f7
        · refine kx_if (fun _ => ?_) (fun _ => ?_)
          · refine kx_bind (fun p13 hp13 => ?_)
            have f8 : fr [88, 91, 102] I p13.2 := fr.trans f4 (fr.sub (by decide) (w_Model_peels (w_U_peels 4) hp13))
            intro h; have h := Option.some.inj h; subst h
            exact f8
          · refine kx_bind (fun p14 hp14 => ?_)
            have f9 : fr [88, 91, 102] I p14.2 := fr.trans f4 (fr.sub (by decide) (w_Model_tells (w_U_tells 4) hp14))
            intro h; have h := Option.some.inj h; subst h
            exact f9
theorem w_Model_trace {I : HI} {x1 : Int32} {r : Int32 × HI} : M_Model_trace I x1 = some r → fr [91] I r.2 := by
  unfold M_Model_trace
  have f0 : fr [91] I I := fr.refl
  refine kx_if (fun _ => ?_) (fun _ => ?_)
  · refine kx_bind (fun p2 hp2 => ?_)
    have f1 : fr [91] I p2.2 := fr.trans f0 (fr.sub (by decide) (w_Model_finds hp2))
    intro h; have h := Option.some.inj h; subst h
    exact f1
  · refine kx_grd (fun b3 => ?_)
    intro h; have h := Option.some.inj h; subst h
    exact f0
theorem w_L_Model_sheet_90 {x1 : Int32} : ∀ {f : Nat} {x4 : Int32} {I : HI} {r : HI}, L_Model_sheet_90 x1 f x4 I = some r → fr [105] I r := by
  intro f
  induction f with
  | zero => intro x4 I r h; rw [L_Model_sheet_90] at h; cases h
  | succ f ih =>
    intro x4 I r
    rw [L_Model_sheet_90]
    have f0 : fr [105] I I := fr.refl
    refine kx_if (fun _ => ?_) (fun _ => ?_)
    · intro h; have h := Option.some.inj h; subst h
      exact f0
    · refine kx_grd (fun b2 => ?_)
      refine kx_lti (fun J3 eJ3 => ?_)
      have f1 : fr [105] I J3 := eJ3 ▸ fr.wr (by decide) f0
      exact fun h => fr.trans f1 (ih h)
theorem w_Model_sheet {I : HI} {x1 : Int32} {x2 : Int32} {x3 : Int32} {r : Int32 × HI} : M_Model_sheet I x1 x2 x3 = some r → fr [91, 103, 104, 105] I r.2 := by
  unfold M_Model_sheet
  have f0 : fr [91, 103, 104, 105] I I := fr.refl
  refine kx_if (fun _ => ?_) (fun _ => ?_)
  · refine kx_bind (fun p2 hp2 => ?_)
    have f1 : fr [91, 103, 104, 105] I p2.2 := fr.trans f0 (fr.sub (by decide) (w_Model_finds hp2))
    intro h; have h := Option.some.inj h; subst h
    exact f1
  · refine kx_if (fun _ => ?_) (fun _ => ?_)
    · refine kx_grd (fun b4 => ?_)
      refine kx_lti (fun J5 eJ5 => ?_)
      have f2 : fr [91, 103, 104, 105] I J5 := eJ5 ▸ fr.wr (by decide) f0
      refine kx_lti (fun J6 eJ6 => ?_)
      have f3 : fr [91, 103, 104, 105] I J6 := eJ6 ▸ fr.wr (by decide) f2
      refine kx_bind (fun p7 hp7 => ?_)
      have f4 : fr [91, 103, 104, 105] I p7 := fr.trans f3 (fr.sub (by decide) (w_L_Model_sheet_90 hp7))
      intro h; have h := Option.some.inj h; subst h
      exact f4
    · refine kx_if (fun _ => ?_) (fun _ => ?_)
      · refine kx_if (fun _ => ?_) (fun _ => ?_)
        · refine kx_if (fun _ => ?_) (fun _ => ?_)
          · refine kx_grd (fun b11 => ?_)
            refine kx_lti (fun J12 eJ12 => ?_)
            have f5 : fr [91, 103, 104, 105] I J12 := eJ12 ▸ fr.wr (by decide) f0
            refine kx_lti (fun J13 eJ13 => ?_)
            have f6 : fr [91, 103, 104, 105] I J13 := eJ13 ▸ fr.wr (by decide) f5
            refine kx_bind (fun p14 hp14 => ?_)
            have f7 : fr [91, 103, 104, 105] I p14 := fr.trans f6 (fr.sub (by decide) (w_L_Model_sheet_90 hp14))
            intro h; have h := Option.some.inj h; subst h
            exact f7
          · refine kx_bind (fun p15 hp15 => ?_)
            have f8 : fr [91, 103, 104, 105] I p15.2 := fr.trans f0 (fr.sub (by decide) (w_Model_finds hp15))
            intro h; have h := Option.some.inj h; subst h
            exact f8
        · refine kx_bind (fun p16 hp16 => ?_)
          have f9 : fr [91, 103, 104, 105] I p16.2 := fr.trans f0 (fr.sub (by decide) (w_Model_finds hp16))
          intro h; have h := Option.some.inj h; subst h
          exact f9
      · refine kx_if (fun _ => ?_) (fun _ => ?_)
        · refine kx_if (fun _ => ?_) (fun _ => ?_)
          · refine kx_if (fun _ => ?_) (fun _ => ?_)
            · refine kx_grd (fun b20 => ?_)
              refine kx_lti (fun J21 eJ21 => ?_)
              have f10 : fr [91, 103, 104, 105] I J21 := eJ21 ▸ fr.wr (by decide) f0
              refine kx_lti (fun J22 eJ22 => ?_)
              have f11 : fr [91, 103, 104, 105] I J22 := eJ22 ▸ fr.wr (by decide) f10
              refine kx_bind (fun p23 hp23 => ?_)
              have f12 : fr [91, 103, 104, 105] I p23 := fr.trans f11 (fr.sub (by decide) (w_L_Model_sheet_90 hp23))
              intro h; have h := Option.some.inj h; subst h
              exact f12
            · refine kx_bind (fun p24 hp24 => ?_)
              have f13 : fr [91, 103, 104, 105] I p24.2 := fr.trans f0 (fr.sub (by decide) (w_Model_finds hp24))
              intro h; have h := Option.some.inj h; subst h
              exact f13
          · refine kx_bind (fun p25 hp25 => ?_)
            have f14 : fr [91, 103, 104, 105] I p25.2 := fr.trans f0 (fr.sub (by decide) (w_Model_finds hp25))
            intro h; have h := Option.some.inj h; subst h
            exact f14
        · refine kx_if (fun _ => ?_) (fun _ => ?_)
          · refine kx_if (fun _ => ?_) (fun _ => ?_)
            · refine kx_if (fun _ => ?_) (fun _ => ?_)
              · refine kx_grd (fun b29 => ?_)
                refine kx_lti (fun J30 eJ30 => ?_)
                have f15 : fr [91, 103, 104, 105] I J30 := eJ30 ▸ fr.wr (by decide) f0
                refine kx_lti (fun J31 eJ31 => ?_)
                have f16 : fr [91, 103, 104, 105] I J31 := eJ31 ▸ fr.wr (by decide) f15
                refine kx_bind (fun p32 hp32 => ?_)
                have f17 : fr [91, 103, 104, 105] I p32 := fr.trans f16 (fr.sub (by decide) (w_L_Model_sheet_90 hp32))
                intro h; have h := Option.some.inj h; subst h
                exact f17
              · refine kx_bind (fun p33 hp33 => ?_)
                have f18 : fr [91, 103, 104, 105] I p33.2 := fr.trans f0 (fr.sub (by decide) (w_Model_finds hp33))
                intro h; have h := Option.some.inj h; subst h
                exact f18
            · refine kx_bind (fun p34 hp34 => ?_)
              have f19 : fr [91, 103, 104, 105] I p34.2 := fr.trans f0 (fr.sub (by decide) (w_Model_finds hp34))
              intro h; have h := Option.some.inj h; subst h
              exact f19
          · refine kx_bind (fun p35 hp35 => ?_)
            have f20 : fr [91, 103, 104, 105] I p35.2 := fr.trans f0 (fr.sub (by decide) (w_Model_finds hp35))
            intro h; have h := Option.some.inj h; subst h
            exact f20
theorem w_Model_put {I : HI} {x1 : Int32} {x2 : Int32} {x3 : Int32} {r : Int32 × HI} : M_Model_put I x1 x2 x3 = some r → fr [91, 105] I r.2 := by
  unfold M_Model_put
  have f0 : fr [91, 105] I I := fr.refl
  refine kx_if (fun _ => ?_) (fun _ => ?_)
  · refine kx_bind (fun p2 hp2 => ?_)
    have f1 : fr [91, 105] I p2.2 := fr.trans f0 (fr.sub (by decide) (w_Model_finds hp2))
    intro h; have h := Option.some.inj h; subst h
    exact f1
  · refine kx_grd (fun b3 => ?_)
    refine kx_if (fun _ => ?_) (fun _ => ?_)
    · refine kx_bind (fun p5 hp5 => ?_)
      have f2 : fr [91, 105] I p5.2 := fr.trans f0 (fr.sub (by decide) (w_Model_finds hp5))
      intro h; have h := Option.some.inj h; subst h
      exact f2
    · refine kx_if (fun _ => ?_) (fun _ => ?_)
      · refine kx_bind (fun p7 hp7 => ?_)
        have f3 : fr [91, 105] I p7.2 := fr.trans f0 (fr.sub (by decide) (w_Model_finds hp7))
        intro h; have h := Option.some.inj h; subst h
        exact f3
      · refine kx_if (fun _ => ?_) (fun _ => ?_)
        · refine kx_grd (fun b9 => ?_)
          refine kx_lti (fun J10 eJ10 => ?_)
          have f4 : fr [91, 105] I J10 := eJ10 ▸ fr.wr (by decide) f0
          intro h; have h := Option.some.inj h; subst h
          exact f4
        · refine kx_if (fun _ => ?_) (fun _ => ?_)
          · refine kx_grd (fun b12 => ?_)
            refine kx_lti (fun J13 eJ13 => ?_)
            have f5 : fr [91, 105] I J13 := eJ13 ▸ fr.wr (by decide) f0
            intro h; have h := Option.some.inj h; subst h
            exact f5
          · refine kx_grd (fun b14 => ?_)
            refine kx_lti (fun J15 eJ15 => ?_)
            have f6 : fr [91, 105] I J15 := eJ15 ▸ fr.wr (by decide) f0
            intro h; have h := Option.some.inj h; subst h
            exact f6
theorem w_L_Model_move_115 {x1 : Int32} {x2 : Int32} {x3 : Int32} {x4 : Int32} {x5 : Int32} : ∀ {f : Nat} {x6 : Int32} {I : HI} {r : HI}, L_Model_move_115 x1 x2 x3 x4 x5 f x6 I = some r → fr [106] I r := by
  intro f
  induction f with
  | zero => intro x6 I r h; rw [L_Model_move_115] at h; cases h
  | succ f ih =>
    intro x6 I r
    rw [L_Model_move_115]
    have f0 : fr [106] I I := fr.refl
    refine kx_if (fun _ => ?_) (fun _ => ?_)
    · intro h; have h := Option.some.inj h; subst h
      exact f0
    · refine kx_grd (fun b2 => ?_)
      refine kx_grd (fun b3 => ?_)
      refine kx_lti (fun J4 eJ4 => ?_)
      have f1 : fr [106] I J4 := eJ4 ▸ fr.wr (by decide) f0
      exact fun h => fr.trans f1 (ih h)
theorem w_L_Model_move_152 {x3 : Int32} {x4 : Int32} {x5 : Int32} : ∀ {f : Nat} {x6 : Int32} {I : HI} {r : HI}, L_Model_move_152 x3 x4 x5 f x6 I = some r → fr [105] I r := by
  intro f
  induction f with
  | zero => intro x6 I r h; rw [L_Model_move_152] at h; cases h
  | succ f ih =>
    intro x6 I r
    rw [L_Model_move_152]
    have f0 : fr [105] I I := fr.refl
    refine kx_if (fun _ => ?_) (fun _ => ?_)
    · intro h; have h := Option.some.inj h; subst h
      exact f0
    · refine kx_grd (fun b2 => ?_)
      refine kx_grd (fun b3 => ?_)
      refine kx_lti (fun J4 eJ4 => ?_)
      have f1 : fr [105] I J4 := eJ4 ▸ fr.wr (by decide) f0
      exact fun h => fr.trans f1 (ih h)
theorem w_Model_move {I : HI} {x1 : Int32} {x2 : Int32} {x3 : Int32} {x4 : Int32} {x5 : Int32} {r : Int32 × HI} : M_Model_move I x1 x2 x3 x4 x5 = some r → fr [91, 105, 106] I r.2 := by
  unfold M_Model_move
  have f0 : fr [91, 105, 106] I I := fr.refl
  refine kx_if (fun _ => ?_) (fun _ => ?_)
  · refine kx_bind (fun p2 hp2 => ?_)
    have f1 : fr [91, 105, 106] I p2.2 := fr.trans f0 (fr.sub (by decide) (w_Model_finds hp2))
    intro h; have h := Option.some.inj h; subst h
    exact f1
  · refine kx_if (fun _ => ?_) (fun _ => ?_)
    · refine kx_bind (fun p4 hp4 => ?_)
      have f2 : fr [91, 105, 106] I p4.2 := fr.trans f0 (fr.sub (by decide) (w_Model_finds hp4))
      intro h; have h := Option.some.inj h; subst h
      exact f2
    · refine kx_grd (fun b5 => ?_)
      refine kx_if (fun _ => ?_) (fun _ => ?_)
      · refine kx_bind (fun p7 hp7 => ?_)
        have f3 : fr [91, 105, 106] I p7.2 := fr.trans f0 (fr.sub (by decide) (w_Model_finds hp7))
        intro h; have h := Option.some.inj h; subst h
        exact f3
      · refine kx_grd (fun b8 => ?_)
        refine kx_if (fun _ => ?_) (fun _ => ?_)
        · refine kx_bind (fun p10 hp10 => ?_)
          have f4 : fr [91, 105, 106] I p10.2 := fr.trans f0 (fr.sub (by decide) (w_Model_finds hp10))
          intro h; have h := Option.some.inj h; subst h
          exact f4
        · refine kx_if (fun _ => ?_) (fun _ => ?_)
          · refine kx_if (fun _ => ?_) (fun _ => ?_)
            · refine kx_bind (fun p13 hp13 => ?_)
              have f5 : fr [91, 105, 106] I p13.2 := fr.trans f0 (fr.sub (by decide) (w_Model_finds hp13))
              intro h; have h := Option.some.inj h; subst h
              exact f5
            · refine kx_if (fun _ => ?_) (fun _ => ?_)
              · refine kx_bind (fun p15 hp15 => ?_)
                have f6 : fr [91, 105, 106] I p15.2 := fr.trans f0 (fr.sub (by decide) (w_Model_finds hp15))
                intro h; have h := Option.some.inj h; subst h
                exact f6
              · refine kx_if (fun _ => ?_) (fun _ => ?_)
                · refine kx_bind (fun p17 hp17 => ?_)
                  have f7 : fr [91, 105, 106] I p17.2 := fr.trans f0 (fr.sub (by decide) (w_Model_finds hp17))
                  intro h; have h := Option.some.inj h; subst h
                  exact f7
                · refine kx_if (fun _ => ?_) (fun _ => ?_)
                  · refine kx_bind (fun p19 hp19 => ?_)
                    have f8 : fr [91, 105, 106] I p19.2 := fr.trans f0 (fr.sub (by decide) (w_Model_finds hp19))
                    intro h; have h := Option.some.inj h; subst h
                    exact f8
                  · refine kx_if (fun _ => ?_) (fun _ => ?_)
                    · refine kx_bind (fun p21 hp21 => ?_)
                      have f9 : fr [91, 105, 106] I p21 := fr.trans f0 (fr.sub (by decide) (w_L_Model_move_115 hp21))
                      refine kx_bind (fun p22 hp22 => ?_)
                      have f10 : fr [91, 105, 106] I p22 := fr.trans f9 (fr.sub (by decide) (w_L_Model_move_152 hp22))
                      intro h; have h := Option.some.inj h; subst h
                      exact f10
                    · refine kx_bind (fun p23 hp23 => ?_)
                      have f11 : fr [91, 105, 106] I p23.2 := fr.trans f0 (fr.sub (by decide) (w_Model_finds hp23))
                      intro h; have h := Option.some.inj h; subst h
                      exact f11
          · refine kx_bind (fun p24 hp24 => ?_)
            have f12 : fr [91, 105, 106] I p24.2 := fr.trans f0 (fr.sub (by decide) (w_Model_finds hp24))
            intro h; have h := Option.some.inj h; subst h
            exact f12
theorem w_L_Model_looks_24 {x1 : Int32} : ∀ {f : Nat} {x3 : Int32} {x4 : Int32} {I : HI} {r : Int32 × HI}, L_Model_looks_24 x1 f x3 x4 I = some r → fr [89] I r.2 := by
  intro f
  induction f with
  | zero => intro x3 x4 I r h; rw [L_Model_looks_24] at h; cases h
  | succ f ih =>
    intro x3 x4 I r
    rw [L_Model_looks_24]
    have f0 : fr [89] I I := fr.refl
    refine kx_grd (fun b1 => ?_)
    refine kx_if (fun _ => ?_) (fun _ => ?_)
    · intro h; have h := Option.some.inj h; subst h
      exact f0
    · refine kx_if (fun _ => ?_) (fun _ => ?_)
      · intro h; have h := Option.some.inj h; subst h
        exact f0
      · refine kx_grd (fun b4 => ?_)
        refine kx_grd (fun b5 => ?_)
        refine kx_grd (fun b6 => ?_)
        refine kx_if (fun _ => ?_) (fun _ => ?_)
        · intro h; have h := Option.some.inj h; subst h
          exact f0
        · refine kx_bind (fun p8 hp8 => ?_)
          have f1 : fr [89] I p8.2 := fr.trans f0 (fr.sub (by decide) (w_Model_lookComes hp8))
          exact fun h => fr.trans f1 (ih h)
theorem w_Model_looks {I : HI} {x1 : Int32} {r : Int32 × HI} : M_Model_looks I x1 = some r → fr [89, 91] I r.2 := by
  unfold M_Model_looks
  have f0 : fr [89, 91] I I := fr.refl
  refine kx_bind (fun p1 hp1 => ?_)
  refine kx_if (fun _ => ?_) (fun _ => ?_)
  · refine kx_bind (fun p3 hp3 => ?_)
    have f2 : fr [89, 91] I p3.2 := fr.trans f0 (fr.sub (by decide) (w_L_Model_looks_24 hp3))
    intro h; have h := Option.some.inj h; subst h
    exact f2
  · refine kx_bind (fun p4 hp4 => ?_)
    have f3 : fr [89, 91] I p4.2 := fr.trans f0 (fr.sub (by decide) (w_Model_finds hp4))
    intro h; have h := Option.some.inj h; subst h
    exact f3
theorem w_Model_isRight {I : HI} {x1 : Int32} {x2 : Int32} {r : Int32 × HI} : M_Model_isRight I x1 x2 = some r → fr [88, 92] I r.2 := by
  unfold M_Model_isRight
  have f0 : fr [88, 92] I I := fr.refl
  refine kx_grd (fun b1 => ?_)
  refine kx_bind (fun p2 hp2 => ?_)
  have f1 : fr [88, 92] I p2.2 := fr.trans f0 (fr.sub (by decide) (w_Model_earlyOf hp2))
  refine kx_bind (fun p3 hp3 => ?_)
  have f2 : fr [88, 92] I p3.2 := fr.trans f1 (fr.sub (by decide) (w_Model_lateOf hp3))
  refine kx_if (fun _ => ?_) (fun _ => ?_)
  · intro h; have h := Option.some.inj h; subst h
    exact f2
  · refine kx_bind (fun p5 hp5 => ?_)
    refine kx_if (fun _ => ?_) (fun _ => ?_)
    · intro h; have h := Option.some.inj h; subst h
      exact f2
    · intro h; have h := Option.some.inj h; subst h
      exact f2
theorem w_L_Model_judge_18 {x1 : Int32} : ∀ {f : Nat} {x3 : Int32} {I : HI} {r : Int32 × HI}, L_Model_judge_18 x1 f x3 I = some r → fr [88, 92] I r.2 := by
  intro f
  induction f with
  | zero => intro x3 I r h; rw [L_Model_judge_18] at h; cases h
  | succ f ih =>
    intro x3 I r
    rw [L_Model_judge_18]
    have f0 : fr [88, 92] I I := fr.refl
    refine kx_if (fun _ => ?_) (fun _ => ?_)
    · intro h; have h := Option.some.inj h; subst h
      exact f0
    · refine kx_grd (fun b2 => ?_)
      refine kx_if (fun _ => ?_) (fun _ => ?_)
      · intro h; have h := Option.some.inj h; subst h
        exact f0
      · refine kx_bind (fun p4 hp4 => ?_)
        have f1 : fr [88, 92] I p4.2 := fr.trans f0 (fr.sub (by decide) (w_Model_isRight hp4))
        refine kx_if (fun _ => ?_) (fun _ => ?_)
        · intro h; have h := Option.some.inj h; subst h
          exact f1
        · exact fun h => fr.trans f1 (ih h)
theorem w_Model_judge {I : HI} {x1 : Int32} {r : Int32 × HI} : M_Model_judge I x1 = some r → fr [88, 91, 92] I r.2 := by
  unfold M_Model_judge
  have f0 : fr [88, 91, 92] I I := fr.refl
  refine kx_bind (fun p1 hp1 => ?_)
  refine kx_if (fun _ => ?_) (fun _ => ?_)
  · refine kx_bind (fun p3 hp3 => ?_)
    have f2 : fr [88, 91, 92] I p3.2 := fr.trans f0 (fr.sub (by decide) (w_L_Model_judge_18 hp3))
    intro h; have h := Option.some.inj h; subst h
    exact f2
  · refine kx_bind (fun p4 hp4 => ?_)
    have f3 : fr [88, 91, 92] I p4.2 := fr.trans f0 (fr.sub (by decide) (w_Model_finds hp4))
    intro h; have h := Option.some.inj h; subst h
    exact f3
theorem w_L_Model_copies_2 : ∀ {f : Nat} {x2 : Int32} {I : HI} {r : HI}, L_Model_copies_2 f x2 I = some r → fr [90] I r := by
  intro f
  induction f with
  | zero => intro x2 I r h; rw [L_Model_copies_2] at h; cases h
  | succ f ih =>
    intro x2 I r
    rw [L_Model_copies_2]
    have f0 : fr [90] I I := fr.refl
    refine kx_if (fun _ => ?_) (fun _ => ?_)
    · intro h; have h := Option.some.inj h; subst h
      exact f0
    · refine kx_grd (fun b2 => ?_)
      refine kx_lti (fun J3 eJ3 => ?_)
      have f1 : fr [90] I J3 := eJ3 ▸ fr.wr (by decide) f0
      exact fun h => fr.trans f1 (ih h)
theorem w_Model_copies {I : HI} {r : HI} : M_Model_copies I = some r → fr [90] I r := by
  unfold M_Model_copies
  have f0 : fr [90] I I := fr.refl
  refine kx_bind (fun p1 hp1 => ?_)
  have f1 : fr [90] I p1 := fr.trans f0 (fr.sub (by decide) (w_L_Model_copies_2 hp1))
  intro h; have h := Option.some.inj h; subst h
  exact f1
theorem w_Model_image {I : HI} {r : Int32 × HI} : M_Model_image I = some r → fr [88, 90] I r.2 := by
  unfold M_Model_image
  have f0 : fr [88, 90] I I := fr.refl
  refine kx_bind (fun p1 hp1 => ?_)
  have f1 : fr [88, 90] I p1 := fr.trans f0 (fr.sub (by decide) (w_Model_copies hp1))
  refine kx_lti (fun J2 eJ2 => ?_)
  have f2 : fr [88, 90] I J2 := eJ2 ▸ fr.wr (by decide) f1
  intro h; have h := Option.some.inj h; subst h
  exact f2
theorem w_L_Model_copies_2_2 : ∀ {f : Nat} {x2 : Int32} {I : HI} {r : HI}, L_Model_copies_2_2 f x2 I = some r → fr [89] I r := by
  intro f
  induction f with
  | zero => intro x2 I r h; rw [L_Model_copies_2_2] at h; cases h
  | succ f ih =>
    intro x2 I r
    rw [L_Model_copies_2_2]
    have f0 : fr [89] I I := fr.refl
    refine kx_if (fun _ => ?_) (fun _ => ?_)
    · intro h; have h := Option.some.inj h; subst h
      exact f0
    · refine kx_grd (fun b2 => ?_)
      refine kx_lti (fun J3 eJ3 => ?_)
      have f1 : fr [89] I J3 := eJ3 ▸ fr.wr (by decide) f0
      exact fun h => fr.trans f1 (ih h)
theorem w_Model_copies_2 {I : HI} {r : HI} : M_Model_copies_2 I = some r → fr [89] I r := by
  unfold M_Model_copies_2
  have f0 : fr [89] I I := fr.refl
  refine kx_bind (fun p1 hp1 => ?_)
  have f1 : fr [89] I p1 := fr.trans f0 (fr.sub (by decide) (w_L_Model_copies_2_2 hp1))
  intro h; have h := Option.some.inj h; subst h
  exact f1
theorem w_Model_restore {I : HI} {r : Int32 × HI} : M_Model_restore I = some r → fr [89, 91] I r.2 := by
  unfold M_Model_restore
  have f0 : fr [89, 91] I I := fr.refl
  refine kx_if (fun _ => ?_) (fun _ => ?_)
  · refine kx_bind (fun p2 hp2 => ?_)
    have f1 : fr [89, 91] I p2.2 := fr.trans f0 (fr.sub (by decide) (w_Model_finds hp2))
    intro h; have h := Option.some.inj h; subst h
    exact f1
  · refine kx_bind (fun p3 hp3 => ?_)
    have f2 : fr [89, 91] I p3 := fr.trans f0 (fr.sub (by decide) (w_Model_copies_2 hp3))
    intro h; have h := Option.some.inj h; subst h
    exact f2
theorem w_Model_tell {I : HI} {x1 : Int32} {r : Int32 × HI} : M_Model_tell I x1 = some r → fr [89, 91] I r.2 := by
  unfold M_Model_tell
  have f0 : fr [89, 91] I I := fr.refl
  refine kx_if (fun _ => ?_) (fun _ => ?_)
  · refine kx_bind (fun p2 hp2 => ?_)
    have f1 : fr [89, 91] I p2.2 := fr.trans f0 (fr.sub (by decide) (w_Model_finds hp2))
    intro h; have h := Option.some.inj h; subst h
    exact f1
  · refine kx_grd (fun b3 => ?_)
    refine kx_lti (fun J4 eJ4 => ?_)
    have f2 : fr [89, 91] I J4 := eJ4 ▸ fr.wr (by decide) f0
    refine kx_lti (fun J5 eJ5 => ?_)
    have f3 : fr [89, 91] I J5 := eJ5 ▸ fr.wr (by decide) f2
    intro h; have h := Option.some.inj h; subst h
    exact f3
theorem w_Model_check {I : HI} {r : Int32 × HI} : M_Model_check I = some r → fr [89, 93] I r.2 := by
  unfold M_Model_check
  have f0 : fr [89, 93] I I := fr.refl
  refine kx_lti (fun J1 eJ1 => ?_)
  have f1 : fr [89, 93] I J1 := eJ1 ▸ fr.wr (by decide) f0
  refine kx_bind (fun p2 hp2 => ?_)
  have f2 : fr [89, 93] I p2 := fr.trans f1 (fr.sub (by decide) (w_Model_findBelow hp2))
  refine kx_bind (fun p3 hp3 => ?_)
  refine kx_if (fun _ => ?_) (fun _ => ?_)
  · refine kx_if (fun _ => ?_) (fun _ => ?_)
    · intro h; have h := Option.some.inj h; subst h
      exact f2
    · intro h; have h := Option.some.inj h; subst h
      exact f2
  · intro h; have h := Option.some.inj h; subst h
    exact f2
theorem w_Model_count {I : HI} {x1 : Int32} {r : Int32 × HI} : M_Model_count I x1 = some r → fr [91] I r.2 := by
  unfold M_Model_count
  have f0 : fr [91] I I := fr.refl
  refine kx_if (fun _ => ?_) (fun _ => ?_)
  · intro h; have h := Option.some.inj h; subst h
    exact f0
  · refine kx_if (fun _ => ?_) (fun _ => ?_)
    · intro h; have h := Option.some.inj h; subst h
      exact f0
    · refine kx_if (fun _ => ?_) (fun _ => ?_)
      · intro h; have h := Option.some.inj h; subst h
        exact f0
      · refine kx_if (fun _ => ?_) (fun _ => ?_)
        · intro h; have h := Option.some.inj h; subst h
          exact f0
        · refine kx_if (fun _ => ?_) (fun _ => ?_)
          · intro h; have h := Option.some.inj h; subst h
            exact f0
          · refine kx_if (fun _ => ?_) (fun _ => ?_)
            · intro h; have h := Option.some.inj h; subst h
              exact f0
            · refine kx_bind (fun p7 hp7 => ?_)
              have f1 : fr [91] I p7.2 := fr.trans f0 (fr.sub (by decide) (w_Model_finds hp7))
              intro h; have h := Option.some.inj h; subst h
              exact f1
theorem w_Model_told {I : HI} {x1 : Int32} {r : Int32 × HI} : M_Model_told I x1 = some r → fr [91] I r.2 := by
  unfold M_Model_told
  have f0 : fr [91] I I := fr.refl
  refine kx_if (fun _ => ?_) (fun _ => ?_)
  · refine kx_bind (fun p2 hp2 => ?_)
    have f1 : fr [91] I p2.2 := fr.trans f0 (fr.sub (by decide) (w_Model_finds hp2))
    intro h; have h := Option.some.inj h; subst h
    exact f1
  · refine kx_grd (fun b3 => ?_)
    intro h; have h := Option.some.inj h; subst h
    exact f0
theorem w_H_error {I : HI} {x1 : Int32} {r : Int32 × HI} : M_H_error I x1 = some r → fr [87] I r.2 := by
  unfold M_H_error
  have f0 : fr [87] I I := fr.refl
  refine kx_grd (fun b1 => ?_)
  refine kx_lti (fun J2 eJ2 => ?_)
  have f1 : fr [87] I J2 := eJ2 ▸ fr.wr (by decide) f0
  intro h; have h := Option.some.inj h; subst h
  exact f1
theorem w_L_Text_workOut_6 {x1 : Int32} {x2 : Int32} {x3 : Int32} {x4 : Int32} : ∀ {f : Nat} {x5 : Int32} {x6 : Int32} {I : HI} {r : HI}, L_Text_workOut_6 x1 x2 x3 x4 f x5 x6 I = some r → fr [19] I r := by
  intro f
  induction f with
  | zero => intro x5 x6 I r h; rw [L_Text_workOut_6] at h; cases h
  | succ f ih =>
    intro x5 x6 I r
    rw [L_Text_workOut_6]
    have f0 : fr [19] I I := fr.refl
    refine kx_if (fun _ => ?_) (fun _ => ?_)
    · intro h; have h := Option.some.inj h; subst h
      exact f0
    · refine kx_grd (fun b2 => ?_)
      refine kx_if (fun _ => ?_) (fun _ => ?_)
      · refine kx_if (fun _ => ?_) (fun _ => ?_)
        · exact fun h => fr.trans f0 (ih h)
        · refine kx_grd (fun b5 => ?_)
          refine kx_lti (fun J6 eJ6 => ?_)
          have f1 : fr [19] I J6 := eJ6 ▸ fr.wr (by decide) f0
          exact fun h => fr.trans f1 (ih h)
      · refine kx_if (fun _ => ?_) (fun _ => ?_)
        · refine kx_if (fun _ => ?_) (fun _ => ?_)
          · exact fun h => fr.trans f0 (ih h)
          · refine kx_grd (fun b9 => ?_)
            refine kx_lti (fun J10 eJ10 => ?_)
            have f2 : fr [19] I J10 := eJ10 ▸ fr.wr (by decide) f0
            exact fun h => fr.trans f2 (ih h)
        · refine kx_if (fun _ => ?_) (fun _ => ?_)
          · refine kx_if (fun _ => ?_) (fun _ => ?_)
            · exact fun h => fr.trans f0 (ih h)
            · refine kx_grd (fun b13 => ?_)
              refine kx_if (fun _ => ?_) (fun _ => ?_)
              · refine kx_lti (fun J15 eJ15 => ?_)
                have f3 : fr [19] I J15 := eJ15 ▸ fr.wr (by decide) f0
                exact fun h => fr.trans f3 (ih h)
              · refine kx_lti (fun J16 eJ16 => ?_)
                have f4 : fr [19] I J16 := eJ16 ▸ fr.wr (by decide) f0
                exact fun h => fr.trans f4 (ih h)
          · refine kx_if (fun _ => ?_) (fun _ => ?_)
            · exact fun h => fr.trans f0 (ih h)
            · refine kx_grd (fun b18 => ?_)
              refine kx_grd (fun b19 => ?_)
              refine kx_bind (fun p20 hp20 => ?_)
              refine kx_lti (fun J21 eJ21 => ?_)
              have f6 : fr [19] I J21 := eJ21 ▸ fr.wr (by decide) f0
              exact fun h => fr.trans f6 (ih h)
theorem w_Text_workOut {I : HI} {x1 : Int32} {x2 : Int32} {x3 : Int32} {x4 : Int32} {r : Int32 × HI} : M_Text_workOut I x1 x2 x3 x4 = some r → fr [19] I r.2 := by
  unfold M_Text_workOut
  have f0 : fr [19] I I := fr.refl
  refine kx_bind (fun p1 hp1 => ?_)
  have f1 : fr [19] I p1 := fr.trans f0 (fr.sub (by decide) (w_L_Text_workOut_6 hp1))
  intro h; have h := Option.some.inj h; subst h
  exact f1
theorem w_L_Text_workOut_2_6 {x1 : Int32} {x2 : Int32} {x3 : Int32} {x4 : Int32} : ∀ {f : Nat} {x5 : Int32} {x6 : Int32} {I : HI} {r : HI}, L_Text_workOut_2_6 x1 x2 x3 x4 f x5 x6 I = some r → fr [24] I r := by
  intro f
  induction f with
  | zero => intro x5 x6 I r h; rw [L_Text_workOut_2_6] at h; cases h
  | succ f ih =>
    intro x5 x6 I r
    rw [L_Text_workOut_2_6]
    have f0 : fr [24] I I := fr.refl
    refine kx_if (fun _ => ?_) (fun _ => ?_)
    · intro h; have h := Option.some.inj h; subst h
      exact f0
    · refine kx_grd (fun b2 => ?_)
      refine kx_if (fun _ => ?_) (fun _ => ?_)
      · refine kx_if (fun _ => ?_) (fun _ => ?_)
        · exact fun h => fr.trans f0 (ih h)
        · refine kx_grd (fun b5 => ?_)
          refine kx_lti (fun J6 eJ6 => ?_)
          have f1 : fr [24] I J6 := eJ6 ▸ fr.wr (by decide) f0
          exact fun h => fr.trans f1 (ih h)
      · refine kx_if (fun _ => ?_) (fun _ => ?_)
        · refine kx_if (fun _ => ?_) (fun _ => ?_)
          · exact fun h => fr.trans f0 (ih h)
          · refine kx_grd (fun b9 => ?_)
            refine kx_lti (fun J10 eJ10 => ?_)
            have f2 : fr [24] I J10 := eJ10 ▸ fr.wr (by decide) f0
            exact fun h => fr.trans f2 (ih h)
        · refine kx_if (fun _ => ?_) (fun _ => ?_)
          · refine kx_if (fun _ => ?_) (fun _ => ?_)
            · exact fun h => fr.trans f0 (ih h)
            · refine kx_grd (fun b13 => ?_)
              refine kx_if (fun _ => ?_) (fun _ => ?_)
              · refine kx_lti (fun J15 eJ15 => ?_)
                have f3 : fr [24] I J15 := eJ15 ▸ fr.wr (by decide) f0
                exact fun h => fr.trans f3 (ih h)
              · refine kx_lti (fun J16 eJ16 => ?_)
                have f4 : fr [24] I J16 := eJ16 ▸ fr.wr (by decide) f0
                exact fun h => fr.trans f4 (ih h)
          · refine kx_if (fun _ => ?_) (fun _ => ?_)
            · exact fun h => fr.trans f0 (ih h)
            · refine kx_grd (fun b18 => ?_)
              refine kx_grd (fun b19 => ?_)
              refine kx_bind (fun p20 hp20 => ?_)
              refine kx_lti (fun J21 eJ21 => ?_)
              have f6 : fr [24] I J21 := eJ21 ▸ fr.wr (by decide) f0
              exact fun h => fr.trans f6 (ih h)
theorem w_Text_workOut_2 {I : HI} {x1 : Int32} {x2 : Int32} {x3 : Int32} {x4 : Int32} {r : Int32 × HI} : M_Text_workOut_2 I x1 x2 x3 x4 = some r → fr [24] I r.2 := by
  unfold M_Text_workOut_2
  have f0 : fr [24] I I := fr.refl
  refine kx_bind (fun p1 hp1 => ?_)
  have f1 : fr [24] I p1 := fr.trans f0 (fr.sub (by decide) (w_L_Text_workOut_2_6 hp1))
  intro h; have h := Option.some.inj h; subst h
  exact f1
theorem w_Wall_givenBy {I : HI} {x1 : Int32} {x2 : Int32} {x3 : Int32} {x4 : Int32} {x5 : Int32} {r : Int32 × HI} : M_Wall_givenBy I x1 x2 x3 x4 x5 = some r → fr [19, 24] I r.2 := by
  unfold M_Wall_givenBy
  have f0 : fr [19, 24] I I := fr.refl
  refine kx_if (fun _ => ?_) (fun _ => ?_)
  · refine kx_if (fun _ => ?_) (fun _ => ?_)
    · refine kx_bind (fun p3 hp3 => ?_)
      have f1 : fr [19, 24] I p3.2 := fr.trans f0 (fr.sub (by decide) (w_Text_workOut hp3))
      intro h; have h := Option.some.inj h; subst h
      exact f1
    · intro h; have h := Option.some.inj h; subst h
      exact f0
  · refine kx_if (fun _ => ?_) (fun _ => ?_)
    · refine kx_bind (fun p5 hp5 => ?_)
      have f2 : fr [19, 24] I p5.2 := fr.trans f0 (fr.sub (by decide) (w_Text_workOut_2 hp5))
      intro h; have h := Option.some.inj h; subst h
      exact f2
    · intro h; have h := Option.some.inj h; subst h
      exact f0
theorem w_Wall_datesOf {C : HC} {I : HI} {x1 : Int32} {r : Int32 × HI} : M_Wall_datesOf C I x1 = some r → fr [19, 24] I r.2 := by
  unfold M_Wall_datesOf
  have f0 : fr [19, 24] I I := fr.refl
  refine kx_grd (fun _ => ?_)
  refine kx_bind (fun p2 hp2 => ?_)
  have f1 : fr [19, 24] I p2.2 := fr.trans f0 (fr.sub (by decide) (w_Wall_givenBy hp2))
  intro h; have h := Option.some.inj h; subst h
  exact f1
theorem w_Wall_earlyOf {C : HC} {I : HI} {x1 : Int32} {r : Int32 × HI} : M_Wall_earlyOf C I x1 = some r → fr [19, 24] I r.2 := by
  unfold M_Wall_earlyOf
  have f0 : fr [19, 24] I I := fr.refl
  refine kx_grd (fun _ => ?_)
  refine kx_bind (fun p2 hp2 => ?_)
  have f1 : fr [19, 24] I p2.2 := fr.trans f0 (fr.sub (by decide) (w_Wall_datesOf hp2))
  intro h; have h := Option.some.inj h; subst h
  exact f1
theorem w_Wall_lateOf {C : HC} {I : HI} {x1 : Int32} {r : Int32 × HI} : M_Wall_lateOf C I x1 = some r → fr [19, 24] I r.2 := by
  unfold M_Wall_lateOf
  have f0 : fr [19, 24] I I := fr.refl
  refine kx_grd (fun _ => ?_)
  refine kx_bind (fun p2 hp2 => ?_)
  have f1 : fr [19, 24] I p2.2 := fr.trans f0 (fr.sub (by decide) (w_Wall_datesOf hp2))
  intro h; have h := Option.some.inj h; subst h
  exact f1
theorem w_H_ofStroke {C : HC} {I : HI} {x1 : Int32} {x2 : Int32} {r : Int32 × HI} : M_H_ofStroke C I x1 x2 = some r → fr [19, 24, 87] I r.2 := by
  unfold M_H_ofStroke
  have f0 : fr [19, 24, 87] I I := fr.refl
  refine kx_if (fun _ => ?_) (fun _ => ?_)
  · refine kx_bind (fun p2 hp2 => ?_)
    have f1 : fr [19, 24, 87] I p2.2 := fr.trans f0 (fr.sub (by decide) (w_H_error hp2))
    intro h; have h := Option.some.inj h; subst h
    exact f1
  · refine kx_if (fun _ => ?_) (fun _ => ?_)
    · refine kx_grd (fun _ => ?_)
      intro h; have h := Option.some.inj h; subst h
      exact f0
    · refine kx_if (fun _ => ?_) (fun _ => ?_)
      · refine kx_grd (fun _ => ?_)
        intro h; have h := Option.some.inj h; subst h
        exact f0
      · refine kx_if (fun _ => ?_) (fun _ => ?_)
        · refine kx_grd (fun _ => ?_)
          intro h; have h := Option.some.inj h; subst h
          exact f0
        · refine kx_if (fun _ => ?_) (fun _ => ?_)
          · refine kx_grd (fun _ => ?_)
            intro h; have h := Option.some.inj h; subst h
            exact f0
          · refine kx_if (fun _ => ?_) (fun _ => ?_)
            · refine kx_grd (fun _ => ?_)
              intro h; have h := Option.some.inj h; subst h
              exact f0
            · refine kx_if (fun _ => ?_) (fun _ => ?_)
              · refine kx_grd (fun _ => ?_)
                intro h; have h := Option.some.inj h; subst h
                exact f0
              · refine kx_if (fun _ => ?_) (fun _ => ?_)
                · refine kx_grd (fun _ => ?_)
                  intro h; have h := Option.some.inj h; subst h
                  exact f0
                · refine kx_if (fun _ => ?_) (fun _ => ?_)
                  · refine kx_bind (fun p18 hp18 => ?_)
                    have f2 : fr [19, 24, 87] I p18.2 := fr.trans f0 (fr.sub (by decide) (w_Wall_earlyOf hp18))
                    intro h; have h := Option.some.inj h; subst h
                    exact f2
                  · refine kx_if (fun _ => ?_) (fun _ => ?_)
                    · refine kx_bind (fun p20 hp20 => ?_)
                      have f3 : fr [19, 24, 87] I p20.2 := fr.trans f0 (fr.sub (by decide) (w_Wall_lateOf hp20))
                      intro h; have h := Option.some.inj h; subst h
                      exact f3
                    · refine kx_if (fun _ => ?_) (fun _ => ?_)
                      · refine kx_grd (fun _ => ?_)
                        intro h; have h := Option.some.inj h; subst h
                        exact f0
                      · refine kx_bind (fun p23 hp23 => ?_)
                        have f4 : fr [19, 24, 87] I p23.2 := fr.trans f0 (fr.sub (by decide) (w_H_error hp23))
                        intro h; have h := Option.some.inj h; subst h
                        exact f4
theorem w_H_as {C : HC} {I : HI} {x1 : Int32} {x2 : Int32} {r : Int32 × HI} : M_H_as C I x1 x2 = some r → fr [87] I r.2 := by
  unfold M_H_as
  have f0 : fr [87] I I := fr.refl
  refine kx_if (fun _ => ?_) (fun _ => ?_)
  · refine kx_bind (fun p2 hp2 => ?_)
    have f1 : fr [87] I p2.2 := fr.trans f0 (fr.sub (by decide) (w_H_error hp2))
    intro h; have h := Option.some.inj h; subst h
    exact f1
  · refine kx_if (fun _ => ?_) (fun _ => ?_)
    · refine kx_bind (fun p4 hp4 => ?_)
      have f2 : fr [87] I p4.2 := fr.trans f0 (fr.sub (by decide) (w_H_error hp4))
      intro h; have h := Option.some.inj h; subst h
      exact f2
    · refine kx_grd (fun _ => ?_)
      refine kx_if (fun _ => ?_) (fun _ => ?_)
      · refine kx_bind (fun p7 hp7 => ?_)
        have f3 : fr [87] I p7.2 := fr.trans f0 (fr.sub (by decide) (w_H_error hp7))
        intro h; have h := Option.some.inj h; subst h
        exact f3
      · intro h; have h := Option.some.inj h; subst h
        exact f0
theorem w_Wall_addLook {I : HI} {x1 : Int32} {x2 : Int32} {x3 : Int32} {r : Int32 × HI} : M_Wall_addLook I x1 x2 x3 = some r → fr [1, 11, 12, 13] I r.2 := by
  unfold M_Wall_addLook
  have f0 : fr [1, 11, 12, 13] I I := fr.refl
  refine kx_grd (fun b1 => ?_)
  refine kx_lti (fun J2 eJ2 => ?_)
  have f1 : fr [1, 11, 12, 13] I J2 := eJ2 ▸ fr.wr (by decide) f0
  refine kx_lti (fun J3 eJ3 => ?_)
  have f2 : fr [1, 11, 12, 13] I J3 := eJ3 ▸ fr.wr (by decide) f1
  refine kx_lti (fun J4 eJ4 => ?_)
  have f3 : fr [1, 11, 12, 13] I J4 := eJ4 ▸ fr.wr (by decide) f2
  refine kx_lti (fun J5 eJ5 => ?_)
  have f4 : fr [1, 11, 12, 13] I J5 := eJ5 ▸ fr.wr (by decide) f3
  intro h; have h := Option.some.inj h; subst h
  exact f4
theorem w_H_over {I : HI} {x1 : Int32} {x2 : Int32} {x3 : Int32} {r : Int32 × HI} : M_H_over I x1 x2 x3 = some r → fr [1, 11, 12, 13, 87] I r.2 := by
  unfold M_H_over
  have f0 : fr [1, 11, 12, 13, 87] I I := fr.refl
  refine kx_if (fun _ => ?_) (fun _ => ?_)
  · refine kx_bind (fun p2 hp2 => ?_)
    have f1 : fr [1, 11, 12, 13, 87] I p2.2 := fr.trans f0 (fr.sub (by decide) (w_H_error hp2))
    intro h; have h := Option.some.inj h; subst h
    exact f1
  · refine kx_if (fun _ => ?_) (fun _ => ?_)
    · refine kx_bind (fun p4 hp4 => ?_)
      have f2 : fr [1, 11, 12, 13, 87] I p4.2 := fr.trans f0 (fr.sub (by decide) (w_Wall_addLook hp4))
      intro h; have h := Option.some.inj h; subst h
      exact f2
    · refine kx_bind (fun p5 hp5 => ?_)
      have f3 : fr [1, 11, 12, 13, 87] I p5.2 := fr.trans f0 (fr.sub (by decide) (w_H_error hp5))
      intro h; have h := Option.some.inj h; subst h
      exact f3
theorem w_Wall_weightOf {C : HC} {I : HI} {x1 : Int32} {r : Int32 × HI} : M_Wall_weightOf C I x1 = some r → fr [19, 24] I r.2 := by
  unfold M_Wall_weightOf
  have f0 : fr [19, 24] I I := fr.refl
  refine kx_grd (fun b1 => ?_)
  refine kx_grd (fun _ => ?_)
  refine kx_bind (fun p3 hp3 => ?_)
  have f1 : fr [19, 24] I p3.2 := fr.trans f0 (fr.sub (by decide) (w_Wall_givenBy hp3))
  intro h; have h := Option.some.inj h; subst h
  exact f1
theorem w_H_ofLook {C : HC} {I : HI} {x1 : Int32} {x2 : Int32} {r : Int32 × HI} : M_H_ofLook C I x1 x2 = some r → fr [19, 24, 87] I r.2 := by
  unfold M_H_ofLook
  have f0 : fr [19, 24, 87] I I := fr.refl
  refine kx_if (fun _ => ?_) (fun _ => ?_)
  · refine kx_bind (fun p2 hp2 => ?_)
    have f1 : fr [19, 24, 87] I p2.2 := fr.trans f0 (fr.sub (by decide) (w_H_error hp2))
    intro h; have h := Option.some.inj h; subst h
    exact f1
  · refine kx_if (fun _ => ?_) (fun _ => ?_)
    · refine kx_grd (fun b4 => ?_)
      intro h; have h := Option.some.inj h; subst h
      exact f0
    · refine kx_if (fun _ => ?_) (fun _ => ?_)
      · refine kx_grd (fun b6 => ?_)
        intro h; have h := Option.some.inj h; subst h
        exact f0
      · refine kx_if (fun _ => ?_) (fun _ => ?_)
        · refine kx_grd (fun b8 => ?_)
          intro h; have h := Option.some.inj h; subst h
          exact f0
        · refine kx_if (fun _ => ?_) (fun _ => ?_)
          · refine kx_bind (fun p10 hp10 => ?_)
            have f2 : fr [19, 24, 87] I p10.2 := fr.trans f0 (fr.sub (by decide) (w_Wall_weightOf hp10))
            intro h; have h := Option.some.inj h; subst h
            exact f2
          · refine kx_bind (fun p11 hp11 => ?_)
            have f3 : fr [19, 24, 87] I p11.2 := fr.trans f0 (fr.sub (by decide) (w_H_error hp11))
            intro h; have h := Option.some.inj h; subst h
            exact f3
theorem w_H_see {I : HI} {x1 : Int32} {x2 : Int32} {r : Int32 × HI} : M_H_see I x1 x2 = some r → fr [13, 87] I r.2 := by
  unfold M_H_see
  have f0 : fr [13, 87] I I := fr.refl
  refine kx_if (fun _ => ?_) (fun _ => ?_)
  · refine kx_bind (fun p2 hp2 => ?_)
    have f1 : fr [13, 87] I p2.2 := fr.trans f0 (fr.sub (by decide) (w_H_error hp2))
    intro h; have h := Option.some.inj h; subst h
    exact f1
  · refine kx_if (fun _ => ?_) (fun _ => ?_)
    · refine kx_bind (fun p4 hp4 => ?_)
      have f2 : fr [13, 87] I p4.2 := fr.trans f0 (fr.sub (by decide) (w_H_error hp4))
      intro h; have h := Option.some.inj h; subst h
      exact f2
    · refine kx_if (fun _ => ?_) (fun _ => ?_)
      · refine kx_grd (fun b6 => ?_)
        refine kx_lti (fun J7 eJ7 => ?_)
        have f3 : fr [13, 87] I J7 := eJ7 ▸ fr.wr (by decide) f0
        intro h; have h := Option.some.inj h; subst h
        exact f3
      · refine kx_bind (fun p8 hp8 => ?_)
        have f4 : fr [13, 87] I p8.2 := fr.trans f0 (fr.sub (by decide) (w_H_error hp8))
        intro h; have h := Option.some.inj h; subst h
        exact f4
