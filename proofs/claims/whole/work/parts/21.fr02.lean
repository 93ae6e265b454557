theorem w_H_forget {I : HI} {r : Int32 × HI} : M_H_forget I = some r → fr [1, 87] I r.2 := by
  unfold M_H_forget
  have f0 : fr [1, 87] I I := fr.refl
  refine kx_if (fun _ => ?_) (fun _ => ?_)
  · refine kx_bind (fun p2 hp2 => ?_)
    have f1 : fr [1, 87] I p2.2 := fr.trans f0 (fr.sub (by decide) (w_H_error hp2))
    intro h; have h := Option.some.inj h; subst h
    exact f1
  · refine kx_lti (fun J3 eJ3 => ?_)
    have f2 : fr [1, 87] I J3 := eJ3 ▸ fr.wr (by decide) f0
    intro h; have h := Option.some.inj h; subst h
    exact f2
theorem w_L_Wall_addBytes_6 {x3 : Int32} : ∀ {f : Nat} {w4 : Int64} {x6 : Int32} {I : HI} {r : HI}, L_Wall_addBytes_6 x3 f w4 x6 I = some r → fr [1, 14] I r := by
  intro f
  induction f with
  | zero => intro w4 x6 I r h; rw [L_Wall_addBytes_6] at h; cases h
  | succ f ih =>
    intro w4 x6 I r
    rw [L_Wall_addBytes_6]
    have f0 : fr [1, 14] I I := fr.refl
    refine kx_if (fun _ => ?_) (fun _ => ?_)
    · intro h; have h := Option.some.inj h; subst h
      exact f0
    · refine kx_grd (fun b2 => ?_)
      refine kx_lti (fun J3 eJ3 => ?_)
      have f1 : fr [1, 14] I J3 := eJ3 ▸ fr.wr (by decide) f0
      refine kx_lti (fun J4 eJ4 => ?_)
      have f2 : fr [1, 14] I J4 := eJ4 ▸ fr.wr (by decide) f1
      exact fun h => fr.trans f2 (ih h)
theorem w_Wall_addBytes {I : HI} {w1 : Int64} {x3 : Int32} {r : HI} : M_Wall_addBytes I w1 x3 = some r → fr [1, 14] I r := by
  unfold M_Wall_addBytes
  have f0 : fr [1, 14] I I := fr.refl
  refine kx_bind (fun p1 hp1 => ?_)
  have f1 : fr [1, 14] I p1 := fr.trans f0 (fr.sub (by decide) (w_L_Wall_addBytes_6 hp1))
  intro h; have h := Option.some.inj h; subst h
  exact f1
theorem w_H_feed {I : HI} {w1 : Int64} {x3 : Int32} {r : Int32 × HI} : M_H_feed I w1 x3 = some r → fr [1, 14, 87] I r.2 := by
  unfold M_H_feed
  have f0 : fr [1, 14, 87] I I := fr.refl
  refine kx_if (fun _ => ?_) (fun _ => ?_)
  · refine kx_bind (fun p2 hp2 => ?_)
    have f1 : fr [1, 14, 87] I p2.2 := fr.trans f0 (fr.sub (by decide) (w_H_error hp2))
    intro h; have h := Option.some.inj h; subst h
    exact f1
  · refine kx_if (fun _ => ?_) (fun _ => ?_)
    · refine kx_if (fun _ => ?_) (fun _ => ?_)
      · refine kx_bind (fun p5 hp5 => ?_)
        have f2 : fr [1, 14, 87] I p5 := fr.trans f0 (fr.sub (by decide) (w_Wall_addBytes hp5))
        intro h; have h := Option.some.inj h; subst h
        exact f2
      · refine kx_bind (fun p6 hp6 => ?_)
        have f3 : fr [1, 14, 87] I p6.2 := fr.trans f0 (fr.sub (by decide) (w_H_error hp6))
        intro h; have h := Option.some.inj h; subst h
        exact f3
    · refine kx_bind (fun p7 hp7 => ?_)
      have f4 : fr [1, 14, 87] I p7.2 := fr.trans f0 (fr.sub (by decide) (w_H_error hp7))
      intro h; have h := Option.some.inj h; subst h
      exact f4
theorem w_H_law {I : HI} {x1 : Int32} {x2 : Int32} {x3 : Int32} {x4 : Int32} {x5 : Int32} {r : Int32 × HI} : M_H_law I x1 x2 x3 x4 x5 = some r → fr [19, 24, 87] I r.2 := by
  unfold M_H_law
  have f0 : fr [19, 24, 87] I I := fr.refl
  refine kx_if (fun _ => ?_) (fun _ => ?_)
  · refine kx_bind (fun p2 hp2 => ?_)
    have f1 : fr [19, 24, 87] I p2.2 := fr.trans f0 (fr.sub (by decide) (w_H_error hp2))
    intro h; have h := Option.some.inj h; subst h
    exact f1
  · refine kx_bind (fun p3 hp3 => ?_)
    have f2 : fr [19, 24, 87] I p3.2 := fr.trans f0 (fr.sub (by decide) (w_Wall_givenBy hp3))
    intro h; have h := Option.some.inj h; subst h
    exact f2
theorem w_L_Sets_findBelow_2 : ∀ {f : Nat} {x2 : Int32} {I : HI} {r : HI}, L_Sets_findBelow_2 f x2 I = some r → fr [65] I r := by
  intro f
  induction f with
  | zero => intro x2 I r h; rw [L_Sets_findBelow_2] at h; cases h
  | succ f ih =>
    intro x2 I r
    rw [L_Sets_findBelow_2]
    have f0 : fr [65] I I := fr.refl
    refine kx_if (fun _ => ?_) (fun _ => ?_)
    · intro h; have h := Option.some.inj h; subst h
      exact f0
    · refine kx_grd (fun b2 => ?_)
      refine kx_lti (fun J3 eJ3 => ?_)
      have f1 : fr [65] I J3 := eJ3 ▸ fr.wr (by decide) f0
      exact fun h => fr.trans f1 (ih h)
theorem w_L_Sets_findBelow_23 : ∀ {f : Nat} {x2 : Int32} {I : HI} {r : HI}, L_Sets_findBelow_23 f x2 I = some r → fr [65] I r := by
  intro f
  induction f with
  | zero => intro x2 I r h; rw [L_Sets_findBelow_23] at h; cases h
  | succ f ih =>
    intro x2 I r
    rw [L_Sets_findBelow_23]
    have f0 : fr [65] I I := fr.refl
    refine kx_if (fun _ => ?_) (fun _ => ?_)
    · intro h; have h := Option.some.inj h; subst h
      exact f0
    · refine kx_grd (fun b2 => ?_)
      refine kx_grd (fun b3 => ?_)
      refine kx_lti (fun J4 eJ4 => ?_)
      have f1 : fr [65] I J4 := eJ4 ▸ fr.wr (by decide) f0
      exact fun h => fr.trans f1 (ih h)
theorem w_Sets_findBelow {I : HI} {r : HI} : M_Sets_findBelow I = some r → fr [65] I r := by
  unfold M_Sets_findBelow
  have f0 : fr [65] I I := fr.refl
  refine kx_bind (fun p1 hp1 => ?_)
  have f1 : fr [65] I p1 := fr.trans f0 (fr.sub (by decide) (w_L_Sets_findBelow_2 hp1))
  refine kx_bind (fun p2 hp2 => ?_)
  have f2 : fr [65] I p2 := fr.trans f1 (fr.sub (by decide) (w_L_Sets_findBelow_23 hp2))
  intro h; have h := Option.some.inj h; subst h
  exact f2
theorem w_L_Sets_countOrders_12 {x2 : Int32} : ∀ {f : Nat} {x3 : Int32} {I : HI} {r : HI}, L_Sets_countOrders_12 x2 f x3 I = some r → fr [69] I r := by
  intro f
  induction f with
  | zero => intro x3 I r h; rw [L_Sets_countOrders_12] at h; cases h
  | succ f ih =>
    intro x3 I r
    rw [L_Sets_countOrders_12]
    have f0 : fr [69] I I := fr.refl
    refine kx_if (fun _ => ?_) (fun _ => ?_)
    · intro h; have h := Option.some.inj h; subst h
      exact f0
    · refine kx_grd (fun b2 => ?_)
      refine kx_lti (fun J3 eJ3 => ?_)
      have f1 : fr [69] I J3 := eJ3 ▸ fr.wr (by decide) f0
      exact fun h => fr.trans f1 (ih h)
theorem w_L_Sets_countOrders_67 {x2 : Int32} {x3 : Int32} {x4 : Int32} : ∀ {f : Nat} {x5 : Int32} {I : HI} {r : HI}, L_Sets_countOrders_67 x2 x3 x4 f x5 I = some r → fr [69] I r := by
  intro f
  induction f with
  | zero => intro x5 I r h; rw [L_Sets_countOrders_67] at h; cases h
  | succ f ih =>
    intro x5 I r
    rw [L_Sets_countOrders_67]
    have f0 : fr [69] I I := fr.refl
    refine kx_if (fun _ => ?_) (fun _ => ?_)
    · intro h; have h := Option.some.inj h; subst h
      exact f0
    · refine kx_if (fun _ => ?_) (fun _ => ?_)
      · exact fun h => fr.trans f0 (ih h)
      · refine kx_grd (fun b3 => ?_)
        refine kx_grd (fun b4 => ?_)
        refine kx_lti (fun J5 eJ5 => ?_)
        have f1 : fr [69] I J5 := eJ5 ▸ fr.wr (by decide) f0
        exact fun h => fr.trans f1 (ih h)
theorem w_L_Sets_countOrders_39 {x2 : Int32} : ∀ {f : Nat} {x3 : Int32} {I : HI} {r : HI}, L_Sets_countOrders_39 x2 f x3 I = some r → fr [69] I r := by
  intro f
  induction f with
  | zero => intro x3 I r h; rw [L_Sets_countOrders_39] at h; cases h
  | succ f ih =>
    intro x3 I r
    rw [L_Sets_countOrders_39]
    have f0 : fr [69] I I := fr.refl
    refine kx_if (fun _ => ?_) (fun _ => ?_)
    · intro h; have h := Option.some.inj h; subst h
      exact f0
    · refine kx_grd (fun b2 => ?_)
      refine kx_if (fun _ => ?_) (fun _ => ?_)
      · exact fun h => fr.trans f0 (ih h)
      · refine kx_bind (fun p4 hp4 => ?_)
        refine kx_bind (fun p5 hp5 => ?_)
        have f2 : fr [69] I p5 := fr.trans f0 (fr.sub (by decide) (w_L_Sets_countOrders_67 hp5))
        exact fun h => fr.trans f2 (ih h)
theorem w_Sets_countOrders {I : HI} {r : Int32 × HI} : M_Sets_countOrders I = some r → fr [65, 69] I r.2 := by
  unfold M_Sets_countOrders
  have f0 : fr [65, 69] I I := fr.refl
  refine kx_bind (fun p1 hp1 => ?_)
  have f1 : fr [65, 69] I p1 := fr.trans f0 (fr.sub (by decide) (w_Sets_findBelow hp1))
  refine kx_bind (fun p2 hp2 => ?_)
  have f2 : fr [65, 69] I p2 := fr.trans f1 (fr.sub (by decide) (w_L_Sets_countOrders_12 hp2))
  refine kx_lti (fun J3 eJ3 => ?_)
  have f3 : fr [65, 69] I J3 := eJ3 ▸ fr.wr (by decide) f2
  refine kx_bind (fun p4 hp4 => ?_)
  have f4 : fr [65, 69] I p4 := fr.trans f3 (fr.sub (by decide) (w_L_Sets_countOrders_39 hp4))
  refine kx_grd (fun b5 => ?_)
  intro h; have h := Option.some.inj h; subst h
  exact f4
theorem w_H_orders {I : HI} {r : Int32 × HI} : M_H_orders I = some r → fr [65, 69] I r.2 := by
  unfold M_H_orders
  have f0 : fr [65, 69] I I := fr.refl
  refine kx_bind (fun p1 hp1 => ?_)
  have f1 : fr [65, 69] I p1.2 := fr.trans f0 (fr.sub (by decide) (w_Sets_countOrders hp1))
  intro h; have h := Option.some.inj h; subst h
  exact f1
theorem w_L_Sets_surely_24 {x2 : Int32} {x3 : Int32} {x4 : Int32} {x5 : Int32} : ∀ {f : Nat} {x6 : Int32} {I : HI} {r : HI}, L_Sets_surely_24 x2 x3 x4 x5 f x6 I = some r → fr [65] I r := by
  intro f
  induction f with
  | zero => intro x6 I r h; rw [L_Sets_surely_24] at h; cases h
  | succ f ih =>
    intro x6 I r
    rw [L_Sets_surely_24]
    have f0 : fr [65] I I := fr.refl
    refine kx_if (fun _ => ?_) (fun _ => ?_)
    · intro h; have h := Option.some.inj h; subst h
      exact f0
    · refine kx_grd (fun b2 => ?_)
      refine kx_if (fun _ => ?_) (fun _ => ?_)
      · exact fun h => fr.trans f0 (ih h)
      · refine kx_grd (fun b4 => ?_)
        refine kx_lti (fun J5 eJ5 => ?_)
        have f1 : fr [65] I J5 := eJ5 ▸ fr.wr (by decide) f0
        exact fun h => fr.trans f1 (ih h)
theorem w_L_Sets_surely_14 {x2 : Int32} {x3 : Int32} {x4 : Int32} : ∀ {f : Nat} {x5 : Int32} {I : HI} {r : HI}, L_Sets_surely_14 x2 x3 x4 f x5 I = some r → fr [65] I r := by
  intro f
  induction f with
  | zero => intro x5 I r h; rw [L_Sets_surely_14] at h; cases h
  | succ f ih =>
    intro x5 I r
    rw [L_Sets_surely_14]
    have f0 : fr [65] I I := fr.refl
    refine kx_if (fun _ => ?_) (fun _ => ?_)
    · intro h; have h := Option.some.inj h; subst h
      exact f0
    · refine kx_bind (fun p2 hp2 => ?_)
      have f1 : fr [65] I p2 := fr.trans f0 (fr.sub (by decide) (w_L_Sets_surely_24 hp2))
      exact fun h => fr.trans f1 (ih h)
theorem w_Sets_surely {I : HI} {x2 : Int32} {x3 : Int32} {r : Int32 × HI} : M_Sets_surely I x2 x3 = some r → fr [65] I r.2 := by
  unfold M_Sets_surely
  have f0 : fr [65] I I := fr.refl
  refine kx_bind (fun p1 hp1 => ?_)
  have f1 : fr [65] I p1 := fr.trans f0 (fr.sub (by decide) (w_Sets_findBelow hp1))
  refine kx_bind (fun p2 hp2 => ?_)
  have f2 : fr [65] I p2 := fr.trans f1 (fr.sub (by decide) (w_L_Sets_surely_14 hp2))
  refine kx_bind (fun p3 hp3 => ?_)
  refine kx_if (fun _ => ?_) (fun _ => ?_)
  · intro h; have h := Option.some.inj h; subst h
    exact f2
  · refine kx_grd (fun b4 => ?_)
    refine kx_if (fun _ => ?_) (fun _ => ?_)
    · refine kx_grd (fun b6 => ?_)
      refine kx_if (fun _ => ?_) (fun _ => ?_)
      · intro h; have h := Option.some.inj h; subst h
        exact f2
      · intro h; have h := Option.some.inj h; subst h
        exact f2
    · intro h; have h := Option.some.inj h; subst h
      exact f2
theorem w_H_sure {I : HI} {x1 : Int32} {x2 : Int32} {r : Int32 × HI} : M_H_sure I x1 x2 = some r → fr [65, 87] I r.2 := by
  unfold M_H_sure
  have f0 : fr [65, 87] I I := fr.refl
  refine kx_if (fun _ => ?_) (fun _ => ?_)
  · refine kx_bind (fun p2 hp2 => ?_)
    have f1 : fr [65, 87] I p2.2 := fr.trans f0 (fr.sub (by decide) (w_H_error hp2))
    intro h; have h := Option.some.inj h; subst h
    exact f1
  · refine kx_bind (fun p3 hp3 => ?_)
    have f2 : fr [65, 87] I p3.2 := fr.trans f0 (fr.sub (by decide) (w_Sets_surely hp3))
    intro h; have h := Option.some.inj h; subst h
    exact f2
theorem w_L_Sets_findLosses_7 : ∀ {f : Nat} {x2 : Int32} {I : HI} {r : HI}, L_Sets_findLosses_7 f x2 I = some r → fr [67] I r := by
  intro f
  induction f with
  | zero => intro x2 I r h; rw [L_Sets_findLosses_7] at h; cases h
  | succ f ih =>
    intro x2 I r
    rw [L_Sets_findLosses_7]
    have f0 : fr [67] I I := fr.refl
    refine kx_if (fun _ => ?_) (fun _ => ?_)
    · intro h; have h := Option.some.inj h; subst h
      exact f0
    · refine kx_grd (fun b2 => ?_)
      refine kx_lti (fun J3 eJ3 => ?_)
      have f1 : fr [67] I J3 := eJ3 ▸ fr.wr (by decide) f0
      exact fun h => fr.trans f1 (ih h)
theorem w_L_Sets_findLosses_31 {C : HC} : ∀ {f : Nat} {x2 : Int32} {I : HI} {r : HI}, L_Sets_findLosses_31 C f x2 I = some r → fr [19, 24, 67] I r := by
  intro f
  induction f with
  | zero => intro x2 I r h; rw [L_Sets_findLosses_31] at h; cases h
  | succ f ih =>
    intro x2 I r
    rw [L_Sets_findLosses_31]
    have f0 : fr [19, 24, 67] I I := fr.refl
    refine kx_if (fun _ => ?_) (fun _ => ?_)
    · intro h; have h := Option.some.inj h; subst h
      exact f0
    · refine kx_grd (fun b2 => ?_)
      refine kx_grd (fun b3 => ?_)
      refine kx_bind (fun p4 hp4 => ?_)
      have f1 : fr [19, 24, 67] I p4.2 := fr.trans f0 (fr.sub (by decide) (w_Wall_weightOf hp4))
      refine kx_lti (fun J5 eJ5 => ?_)
      have f2 : fr [19, 24, 67] I J5 := eJ5 ▸ fr.wr (by decide) f1
      exact fun h => fr.trans f2 (ih h)
theorem w_Sets_findLosses {C : HC} {I : HI} {r : HI} : M_Sets_findLosses C I = some r → fr [19, 24, 65, 67] I r := by
  unfold M_Sets_findLosses
  have f0 : fr [19, 24, 65, 67] I I := fr.refl
  refine kx_bind (fun p1 hp1 => ?_)
  have f1 : fr [19, 24, 65, 67] I p1 := fr.trans f0 (fr.sub (by decide) (w_Sets_findBelow hp1))
  refine kx_bind (fun p2 hp2 => ?_)
  have f2 : fr [19, 24, 65, 67] I p2 := fr.trans f1 (fr.sub (by decide) (w_L_Sets_findLosses_7 hp2))
  refine kx_bind (fun p3 hp3 => ?_)
  have f3 : fr [19, 24, 65, 67] I p3 := fr.trans f2 (fr.sub (by decide) (w_L_Sets_findLosses_31 hp3))
  intro h; have h := Option.some.inj h; subst h
  exact f3
theorem w_L_Sets_findBestOrder_44 {x2 : Int32} {x4 : Int32} : ∀ {f : Nat} {x5 : Int32} {I : HI} {r : HI}, L_Sets_findBestOrder_44 x2 x4 f x5 I = some r → fr [70] I r := by
  intro f
  induction f with
  | zero => intro x5 I r h; rw [L_Sets_findBestOrder_44] at h; cases h
  | succ f ih =>
    intro x5 I r
    rw [L_Sets_findBestOrder_44]
    have f0 : fr [70] I I := fr.refl
    refine kx_if (fun _ => ?_) (fun _ => ?_)
    · intro h; have h := Option.some.inj h; subst h
      exact f0
    · refine kx_if (fun _ => ?_) (fun _ => ?_)
      · refine kx_grd (fun b3 => ?_)
        refine kx_bind (fun p4 hp4 => ?_)
        refine kx_grd (fun b5 => ?_)
        refine kx_lti (fun J6 eJ6 => ?_)
        have f2 : fr [70] I J6 := eJ6 ▸ fr.wr (by decide) f0
        exact fun h => fr.trans f2 (ih h)
      · exact fun h => fr.trans f0 (ih h)
theorem w_L_Sets_findBestOrder_27 {x2 : Int32} : ∀ {f : Nat} {x4 : Int32} {I : HI} {r : HI}, L_Sets_findBestOrder_27 x2 f x4 I = some r → fr [70] I r := by
  intro f
  induction f with
  | zero => intro x4 I r h; rw [L_Sets_findBestOrder_27] at h; cases h
  | succ f ih =>
    intro x4 I r
    rw [L_Sets_findBestOrder_27]
    have f0 : fr [70] I I := fr.refl
    refine kx_if (fun _ => ?_) (fun _ => ?_)
    · intro h; have h := Option.some.inj h; subst h
      exact f0
    · refine kx_grd (fun b2 => ?_)
      refine kx_lti (fun J3 eJ3 => ?_)
      have f1 : fr [70] I J3 := eJ3 ▸ fr.wr (by decide) f0
      refine kx_bind (fun p4 hp4 => ?_)
      have f2 : fr [70] I p4 := fr.trans f1 (fr.sub (by decide) (w_L_Sets_findBestOrder_44 hp4))
      exact fun h => fr.trans f2 (ih h)
theorem w_L_Sets_findBestOrder_116 {x2 : Int32} : ∀ {f : Nat} {x4 : Int32} {x5 : Int32} {I : HI} {r : HI}, L_Sets_findBestOrder_116 x2 f x4 x5 I = some r → fr [64] I r := by
  intro f
  induction f with
  | zero => intro x4 x5 I r h; rw [L_Sets_findBestOrder_116] at h; cases h
  | succ f ih =>
    intro x4 x5 I r
    rw [L_Sets_findBestOrder_116]
    have f0 : fr [64] I I := fr.refl
    refine kx_if (fun _ => ?_) (fun _ => ?_)
    · intro h; have h := Option.some.inj h; subst h
      exact f0
    · refine kx_bind (fun p2 hp2 => ?_)
      refine kx_grd (fun b3 => ?_)
      refine kx_lti (fun J4 eJ4 => ?_)
      have f2 : fr [64] I J4 := eJ4 ▸ fr.wr (by decide) f0
      refine kx_lti (fun y5 ey5 => ?_)
      exact fun h => fr.trans f2 (ih h)
theorem w_Sets_findBestOrder {C : HC} {I : HI} {r : HI} : M_Sets_findBestOrder C I = some r → fr [19, 24, 64, 65, 67, 70] I r := by
  unfold M_Sets_findBestOrder
  have f0 : fr [19, 24, 64, 65, 67, 70] I I := fr.refl
  refine kx_bind (fun p1 hp1 => ?_)
  have f1 : fr [19, 24, 64, 65, 67, 70] I p1 := fr.trans f0 (fr.sub (by decide) (w_Sets_findLosses hp1))
  refine kx_grd (fun b2 => ?_)
  refine kx_lti (fun J3 eJ3 => ?_)
  have f2 : fr [19, 24, 64, 65, 67, 70] I J3 := eJ3 ▸ fr.wr (by decide) f1
  refine kx_bind (fun p4 hp4 => ?_)
  have f3 : fr [19, 24, 64, 65, 67, 70] I p4 := fr.trans f2 (fr.sub (by decide) (w_L_Sets_findBestOrder_27 hp4))
  refine kx_bind (fun p5 hp5 => ?_)
  have f4 : fr [19, 24, 64, 65, 67, 70] I p5 := fr.trans f3 (fr.sub (by decide) (w_L_Sets_findBestOrder_116 hp5))
  intro h; have h := Option.some.inj h; subst h
  exact f4
theorem w_H_wrong {C : HC} {I : HI} {x1 : Int32} {r : Int32 × HI} : M_H_wrong C I x1 = some r → fr [19, 24, 64, 65, 67, 70, 87] I r.2 := by
  unfold M_H_wrong
  have f0 : fr [19, 24, 64, 65, 67, 70, 87] I I := fr.refl
  refine kx_if (fun _ => ?_) (fun _ => ?_)
  · refine kx_bind (fun p2 hp2 => ?_)
    have f1 : fr [19, 24, 64, 65, 67, 70, 87] I p2.2 := fr.trans f0 (fr.sub (by decide) (w_H_error hp2))
    intro h; have h := Option.some.inj h; subst h
    exact f1
  · refine kx_bind (fun p3 hp3 => ?_)
    have f2 : fr [19, 24, 64, 65, 67, 70, 87] I p3 := fr.trans f0 (fr.sub (by decide) (w_Sets_findBestOrder hp3))
    refine kx_if (fun _ => ?_) (fun _ => ?_)
    · intro h; have h := Option.some.inj h; subst h
      exact f2
    · refine kx_bind (fun p5 hp5 => ?_)
      intro h; have h := Option.some.inj h; subst h
      exact f2
theorem w_H_best {C : HC} {I : HI} {x1 : Int32} {r : Int32 × HI} : M_H_best C I x1 = some r → fr [19, 24, 64, 65, 67, 70, 87] I r.2 := by
  unfold M_H_best
  have f0 : fr [19, 24, 64, 65, 67, 70, 87] I I := fr.refl
  refine kx_if (fun _ => ?_) (fun _ => ?_)
  · refine kx_bind (fun p2 hp2 => ?_)
    have f1 : fr [19, 24, 64, 65, 67, 70, 87] I p2.2 := fr.trans f0 (fr.sub (by decide) (w_H_error hp2))
    intro h; have h := Option.some.inj h; subst h
    exact f1
  · refine kx_bind (fun p3 hp3 => ?_)
    have f2 : fr [19, 24, 64, 65, 67, 70, 87] I p3 := fr.trans f0 (fr.sub (by decide) (w_Sets_findBestOrder hp3))
    refine kx_grd (fun b4 => ?_)
    intro h; have h := Option.some.inj h; subst h
    exact f2
theorem w_L_Spans_load_2 {C : HC} : ∀ {f : Nat} {x2 : Int32} {I : HI} {r : HI}, L_Spans_load_2 C f x2 I = some r → fr [19, 24, 75, 76] I r := by
  intro f
  induction f with
  | zero => intro x2 I r h; rw [L_Spans_load_2] at h; cases h
  | succ f ih =>
    intro x2 I r
    rw [L_Spans_load_2]
    have f0 : fr [19, 24, 75, 76] I I := fr.refl
    refine kx_if (fun _ => ?_) (fun _ => ?_)
    · intro h; have h := Option.some.inj h; subst h
      exact f0
    · refine kx_bind (fun p2 hp2 => ?_)
      have f1 : fr [19, 24, 75, 76] I p2.2 := fr.trans f0 (fr.sub (by decide) (w_Wall_earlyOf hp2))
      refine kx_grd (fun b3 => ?_)
      refine kx_lti (fun J4 eJ4 => ?_)
      have f2 : fr [19, 24, 75, 76] I J4 := eJ4 ▸ fr.wr (by decide) f1
      refine kx_bind (fun p5 hp5 => ?_)
      have f3 : fr [19, 24, 75, 76] I p5.2 := fr.trans f2 (fr.sub (by decide) (w_Wall_lateOf hp5))
      refine kx_lti (fun J6 eJ6 => ?_)
      have f4 : fr [19, 24, 75, 76] I J6 := eJ6 ▸ fr.wr (by decide) f3
      exact fun h => fr.trans f4 (ih h)
theorem w_Spans_load {C : HC} {I : HI} {r : HI} : M_Spans_load C I = some r → fr [19, 24, 75, 76] I r := by
  unfold M_Spans_load
  have f0 : fr [19, 24, 75, 76] I I := fr.refl
  refine kx_bind (fun p1 hp1 => ?_)
  have f1 : fr [19, 24, 75, 76] I p1 := fr.trans f0 (fr.sub (by decide) (w_L_Spans_load_2 hp1))
  intro h; have h := Option.some.inj h; subst h
  exact f1
theorem w_L_Spans_pushUp_32 {x3 : Int32} : ∀ {f : Nat} {x2 : Int32} {x4 : Int32} {I : HI} {r : Int32 × HI}, L_Spans_pushUp_32 x3 f x2 x4 I = some r → fr [73] I r.2 := by
  intro f
  induction f with
  | zero => intro x2 x4 I r h; rw [L_Spans_pushUp_32] at h; cases h
  | succ f ih =>
    intro x2 x4 I r
    rw [L_Spans_pushUp_32]
    have f0 : fr [73] I I := fr.refl
    refine kx_if (fun _ => ?_) (fun _ => ?_)
    · intro h; have h := Option.some.inj h; subst h
      exact f0
    · refine kx_grd (fun b2 => ?_)
      refine kx_grd (fun b3 => ?_)
      refine kx_grd (fun b4 => ?_)
      refine kx_if (fun _ => ?_) (fun _ => ?_)
      · exact fun h => fr.trans f0 (ih h)
      · refine kx_lti (fun J6 eJ6 => ?_)
        have f1 : fr [73] I J6 := eJ6 ▸ fr.wr (by decide) f0
        exact fun h => fr.trans f1 (ih h)
theorem w_L_Spans_pushUp_15 : ∀ {f : Nat} {x2 : Int32} {x3 : Int32} {I : HI} {r : Int32 × HI}, L_Spans_pushUp_15 f x2 x3 I = some r → fr [73] I r.2 := by
  intro f
  induction f with
  | zero => intro x2 x3 I r h; rw [L_Spans_pushUp_15] at h; cases h
  | succ f ih =>
    intro x2 x3 I r
    rw [L_Spans_pushUp_15]
    have f0 : fr [73] I I := fr.refl
    refine kx_if (fun _ => ?_) (fun _ => ?_)
    · intro h; have h := Option.some.inj h; subst h
      exact f0
    · refine kx_if (fun _ => ?_) (fun _ => ?_)
      · intro h; have h := Option.some.inj h; subst h
        exact f0
      · refine kx_bind (fun p3 hp3 => ?_)
        have f1 : fr [73] I p3.2 := fr.trans f0 (fr.sub (by decide) (w_L_Spans_pushUp_32 hp3))
        exact fun h => fr.trans f1 (ih h)
theorem w_Spans_pushUp {I : HI} {r : Int32 × HI} : M_Spans_pushUp I = some r → fr [73] I r.2 := by
  unfold M_Spans_pushUp
  have f0 : fr [73] I I := fr.refl
  refine kx_if (fun _ => ?_) (fun _ => ?_)
  · refine kx_bind (fun p2 hp2 => ?_)
    have f1 : fr [73] I p2.2 := fr.trans f0 (fr.sub (by decide) (w_L_Spans_pushUp_15 hp2))
    refine kx_if (fun _ => ?_) (fun _ => ?_)
    · intro h; have h := Option.some.inj h; subst h
      exact f1
    · intro h; have h := Option.some.inj h; subst h
      exact f1
  · refine kx_bind (fun p4 hp4 => ?_)
    have f2 : fr [73] I p4.2 := fr.trans f0 (fr.sub (by decide) (w_L_Spans_pushUp_15 hp4))
    refine kx_if (fun _ => ?_) (fun _ => ?_)
    · intro h; have h := Option.some.inj h; subst h
      exact f2
    · intro h; have h := Option.some.inj h; subst h
      exact f2
theorem w_L_Spans_pushDown_21 {x3 : Int32} : ∀ {f : Nat} {x2 : Int32} {x4 : Int32} {I : HI} {r : Int32 × HI}, L_Spans_pushDown_21 x3 f x2 x4 I = some r → fr [74] I r.2 := by
  intro f
  induction f with
  | zero => intro x2 x4 I r h; rw [L_Spans_pushDown_21] at h; cases h
  | succ f ih =>
    intro x2 x4 I r
    rw [L_Spans_pushDown_21]
    have f0 : fr [74] I I := fr.refl
    refine kx_if (fun _ => ?_) (fun _ => ?_)
    · intro h; have h := Option.some.inj h; subst h
      exact f0
    · refine kx_grd (fun b2 => ?_)
      refine kx_grd (fun b3 => ?_)
      refine kx_grd (fun b4 => ?_)
      refine kx_if (fun _ => ?_) (fun _ => ?_)
      · exact fun h => fr.trans f0 (ih h)
      · refine kx_lti (fun J6 eJ6 => ?_)
        have f1 : fr [74] I J6 := eJ6 ▸ fr.wr (by decide) f0
        exact fun h => fr.trans f1 (ih h)
theorem w_L_Spans_pushDown_4 : ∀ {f : Nat} {x2 : Int32} {x3 : Int32} {I : HI} {r : HI}, L_Spans_pushDown_4 f x2 x3 I = some r → fr [74] I r := by
  intro f
  induction f with
  | zero => intro x2 x3 I r h; rw [L_Spans_pushDown_4] at h; cases h
  | succ f ih =>
    intro x2 x3 I r
    rw [L_Spans_pushDown_4]
    have f0 : fr [74] I I := fr.refl
    refine kx_if (fun _ => ?_) (fun _ => ?_)
    · intro h; have h := Option.some.inj h; subst h
      exact f0
    · refine kx_if (fun _ => ?_) (fun _ => ?_)
      · intro h; have h := Option.some.inj h; subst h
        exact f0
      · refine kx_bind (fun p3 hp3 => ?_)
        have f1 : fr [74] I p3.2 := fr.trans f0 (fr.sub (by decide) (w_L_Spans_pushDown_21 hp3))
        exact fun h => fr.trans f1 (ih h)
theorem w_Spans_pushDown {I : HI} {r : HI} : M_Spans_pushDown I = some r → fr [74] I r := by
  unfold M_Spans_pushDown
  have f0 : fr [74] I I := fr.refl
  refine kx_bind (fun p1 hp1 => ?_)
  have f1 : fr [74] I p1 := fr.trans f0 (fr.sub (by decide) (w_L_Spans_pushDown_4 hp1))
  intro h; have h := Option.some.inj h; subst h
  exact f1
theorem w_L_Spans_settle_2 : ∀ {f : Nat} {x2 : Int32} {I : HI} {r : HI}, L_Spans_settle_2 f x2 I = some r → fr [73, 74] I r := by
  intro f
  induction f with
  | zero => intro x2 I r h; rw [L_Spans_settle_2] at h; cases h
  | succ f ih =>
    intro x2 I r
    rw [L_Spans_settle_2]
    have f0 : fr [73, 74] I I := fr.refl
    refine kx_if (fun _ => ?_) (fun _ => ?_)
    · intro h; have h := Option.some.inj h; subst h
      exact f0
    · refine kx_grd (fun b2 => ?_)
      refine kx_lti (fun J3 eJ3 => ?_)
      have f1 : fr [73, 74] I J3 := eJ3 ▸ fr.wr (by decide) f0
      refine kx_lti (fun J4 eJ4 => ?_)
      have f2 : fr [73, 74] I J4 := eJ4 ▸ fr.wr (by decide) f1
      exact fun h => fr.trans f2 (ih h)
theorem w_Spans_settle {I : HI} {r : Int32 × HI} : M_Spans_settle I = some r → fr [73, 74] I r.2 := by
  unfold M_Spans_settle
  have f0 : fr [73, 74] I I := fr.refl
  refine kx_bind (fun p1 hp1 => ?_)
  have f1 : fr [73, 74] I p1 := fr.trans f0 (fr.sub (by decide) (w_L_Spans_settle_2 hp1))
  refine kx_bind (fun p2 hp2 => ?_)
  have f2 : fr [73, 74] I p2.2 := fr.trans f1 (fr.sub (by decide) (w_Spans_pushUp hp2))
  refine kx_if (fun _ => ?_) (fun _ => ?_)
  · intro h; have h := Option.some.inj h; subst h
    exact f2
  · refine kx_bind (fun p4 hp4 => ?_)
    refine kx_if (fun _ => ?_) (fun _ => ?_)
    · intro h; have h := Option.some.inj h; subst h
      exact f2
    · refine kx_bind (fun p5 hp5 => ?_)
      have f4 : fr [73, 74] I p5 := fr.trans f2 (fr.sub (by decide) (w_Spans_pushDown hp5))
      intro h; have h := Option.some.inj h; subst h
      exact f4
theorem w_H_span {C : HC} {I : HI} {x1 : Int32} {x2 : Int32} {r : Int32 × HI} : M_H_span C I x1 x2 = some r → fr [19, 24, 73, 74, 75, 76, 87] I r.2 := by
  unfold M_H_span
  have f0 : fr [19, 24, 73, 74, 75, 76, 87] I I := fr.refl
  refine kx_if (fun _ => ?_) (fun _ => ?_)
  · refine kx_bind (fun p2 hp2 => ?_)
    have f1 : fr [19, 24, 73, 74, 75, 76, 87] I p2.2 := fr.trans f0 (fr.sub (by decide) (w_H_error hp2))
    intro h; have h := Option.some.inj h; subst h
    exact f1
  · refine kx_if (fun _ => ?_) (fun _ => ?_)
    · refine kx_bind (fun p4 hp4 => ?_)
      have f2 : fr [19, 24, 73, 74, 75, 76, 87] I p4.2 := fr.trans f0 (fr.sub (by decide) (w_H_error hp4))
      intro h; have h := Option.some.inj h; subst h
      exact f2
    · refine kx_bind (fun p5 hp5 => ?_)
      have f3 : fr [19, 24, 73, 74, 75, 76, 87] I p5 := fr.trans f0 (fr.sub (by decide) (w_Spans_load hp5))
      refine kx_bind (fun p6 hp6 => ?_)
      have f4 : fr [19, 24, 73, 74, 75, 76, 87] I p6.2 := fr.trans f3 (fr.sub (by decide) (w_Spans_settle hp6))
      refine kx_if (fun _ => ?_) (fun _ => ?_)
      · refine kx_bind (fun p8 hp8 => ?_)
        have f5 : fr [19, 24, 73, 74, 75, 76, 87] I p8.2 := fr.trans f4 (fr.sub (by decide) (w_H_error hp8))
        intro h; have h := Option.some.inj h; subst h
        exact f5
      · refine kx_if (fun _ => ?_) (fun _ => ?_)
        · refine kx_grd (fun b10 => ?_)
          intro h; have h := Option.some.inj h; subst h
          exact f4
        · refine kx_grd (fun b11 => ?_)
          intro h; have h := Option.some.inj h; subst h
          exact f4
theorem w_Spans_widthByTest {I : HI} {x2 : Int32} {x3 : Int32} {r : Int32 × HI} : M_Spans_widthByTest I x2 x3 = some r → fr [73, 74, 75, 76] I r.2 := by
  unfold M_Spans_widthByTest
  have f0 : fr [73, 74, 75, 76] I I := fr.refl
  refine kx_grd (fun b1 => ?_)
  refine kx_lti (fun J2 eJ2 => ?_)
  have f1 : fr [73, 74, 75, 76] I J2 := eJ2 ▸ fr.wr (by decide) f0
  refine kx_lti (fun J3 eJ3 => ?_)
  have f2 : fr [73, 74, 75, 76] I J3 := eJ3 ▸ fr.wr (by decide) f1
  refine kx_bind (fun p4 hp4 => ?_)
  have f3 : fr [73, 74, 75, 76] I p4.2 := fr.trans f2 (fr.sub (by decide) (w_Spans_settle hp4))
  refine kx_if (fun _ => ?_) (fun _ => ?_)
  · refine kx_lti (fun J6 eJ6 => ?_)
    have f4 : fr [73, 74, 75, 76] I J6 := eJ6 ▸ fr.wr (by decide) f3
    refine kx_lti (fun J7 eJ7 => ?_)
    have f5 : fr [73, 74, 75, 76] I J7 := eJ7 ▸ fr.wr (by decide) f4
    intro h; have h := Option.some.inj h; subst h
    exact f5
  · refine kx_bind (fun p8 hp8 => ?_)
    refine kx_lti (fun J9 eJ9 => ?_)
    have f7 : fr [73, 74, 75, 76] I J9 := eJ9 ▸ fr.wr (by decide) f3
    refine kx_lti (fun J10 eJ10 => ?_)
    have f8 : fr [73, 74, 75, 76] I J10 := eJ10 ▸ fr.wr (by decide) f7
    intro h; have h := Option.some.inj h; subst h
    exact f8
theorem w_H_test {C : HC} {I : HI} {x1 : Int32} {x2 : Int32} {r : Int32 × HI} : M_H_test C I x1 x2 = some r → fr [19, 24, 73, 74, 75, 76, 87] I r.2 := by
  unfold M_H_test
  have f0 : fr [19, 24, 73, 74, 75, 76, 87] I I := fr.refl
  refine kx_if (fun _ => ?_) (fun _ => ?_)
  · refine kx_bind (fun p2 hp2 => ?_)
    have f1 : fr [19, 24, 73, 74, 75, 76, 87] I p2.2 := fr.trans f0 (fr.sub (by decide) (w_H_error hp2))
    intro h; have h := Option.some.inj h; subst h
    exact f1
  · refine kx_if (fun _ => ?_) (fun _ => ?_)
    · refine kx_bind (fun p4 hp4 => ?_)
      have f2 : fr [19, 24, 73, 74, 75, 76, 87] I p4.2 := fr.trans f0 (fr.sub (by decide) (w_H_error hp4))
      intro h; have h := Option.some.inj h; subst h
      exact f2
    · refine kx_bind (fun p5 hp5 => ?_)
      have f3 : fr [19, 24, 73, 74, 75, 76, 87] I p5 := fr.trans f0 (fr.sub (by decide) (w_Spans_load hp5))
      refine kx_bind (fun p6 hp6 => ?_)
      have f4 : fr [19, 24, 73, 74, 75, 76, 87] I p6.2 := fr.trans f3 (fr.sub (by decide) (w_Spans_widthByTest hp6))
      refine kx_if (fun _ => ?_) (fun _ => ?_)
      · intro h; have h := Option.some.inj h; subst h
        exact f4
      · refine kx_bind (fun p8 hp8 => ?_)
        have f5 : fr [19, 24, 73, 74, 75, 76, 87] I p8.2 := fr.trans f4 (fr.sub (by decide) (w_H_error hp8))
        intro h; have h := Option.some.inj h; subst h
        exact f5
theorem w_Spans_worstOf {I : HI} {x2 : Int32} {r : Int32 × HI} : M_Spans_worstOf I x2 = some r → fr [73, 74, 75, 76] I r.2 := by
  unfold M_Spans_worstOf
  have f0 : fr [73, 74, 75, 76] I I := fr.refl
  refine kx_grd (fun b1 => ?_)
  refine kx_bind (fun p2 hp2 => ?_)
  have f1 : fr [73, 74, 75, 76] I p2.2 := fr.trans f0 (fr.sub (by decide) (w_Spans_widthByTest hp2))
  refine kx_bind (fun p3 hp3 => ?_)
  have f2 : fr [73, 74, 75, 76] I p3.2 := fr.trans f1 (fr.sub (by decide) (w_Spans_widthByTest hp3))
  refine kx_bind (fun p4 hp4 => ?_)
  have f3 : fr [73, 74, 75, 76] I p4.2 := fr.trans f2 (fr.sub (by decide) (w_Spans_widthByTest hp4))
  intro h; have h := Option.some.inj h; subst h
  exact f3
theorem w_L_Spans_findNext_12 : ∀ {f : Nat} {x2 : Int32} {I : HI} {r : HI}, L_Spans_findNext_12 f x2 I = some r → fr [77, 78] I r := by
  intro f
  induction f with
  | zero => intro x2 I r h; rw [L_Spans_findNext_12] at h; cases h
  | succ f ih =>
    intro x2 I r
    rw [L_Spans_findNext_12]
    have f0 : fr [77, 78] I I := fr.refl
    refine kx_if (fun _ => ?_) (fun _ => ?_)
    · intro h; have h := Option.some.inj h; subst h
      exact f0
    · refine kx_grd (fun b2 => ?_)
      refine kx_lti (fun J3 eJ3 => ?_)
      have f1 : fr [77, 78] I J3 := eJ3 ▸ fr.wr (by decide) f0
      refine kx_lti (fun J4 eJ4 => ?_)
      have f2 : fr [77, 78] I J4 := eJ4 ▸ fr.wr (by decide) f1
      exact fun h => fr.trans f2 (ih h)
theorem w_L_Spans_findNext_67 : ∀ {f : Nat} {x2 : Int32} {I : HI} {r : HI}, L_Spans_findNext_67 f x2 I = some r → fr [72, 73, 74, 75, 76] I r := by
  intro f
  induction f with
  | zero => intro x2 I r h; rw [L_Spans_findNext_67] at h; cases h
  | succ f ih =>
    intro x2 I r
    rw [L_Spans_findNext_67]
    have f0 : fr [72, 73, 74, 75, 76] I I := fr.refl
    refine kx_if (fun _ => ?_) (fun _ => ?_)
    · intro h; have h := Option.some.inj h; subst h
      exact f0
    · refine kx_bind (fun p2 hp2 => ?_)
      have f1 : fr [72, 73, 74, 75, 76] I p2.2 := fr.trans f0 (fr.sub (by decide) (w_Spans_worstOf hp2))
      refine kx_if (fun _ => ?_) (fun _ => ?_)
      · exact fun h => fr.trans f1 (ih h)
      · refine kx_lti (fun J4 eJ4 => ?_)
        have f2 : fr [72, 73, 74, 75, 76] I J4 := eJ4 ▸ fr.wr (by decide) f1
        refine kx_lti (fun J5 eJ5 => ?_)
        have f3 : fr [72, 73, 74, 75, 76] I J5 := eJ5 ▸ fr.wr (by decide) f2
        exact fun h => fr.trans f3 (ih h)
theorem w_Spans_findNext {I : HI} {r : Int32 × HI} : M_Spans_findNext I = some r → fr [72, 73, 74, 75, 76, 77, 78] I r.2 := by
  unfold M_Spans_findNext
  have f0 : fr [72, 73, 74, 75, 76, 77, 78] I I := fr.refl
  refine kx_bind (fun p1 hp1 => ?_)
  have f1 : fr [72, 73, 74, 75, 76, 77, 78] I p1.2 := fr.trans f0 (fr.sub (by decide) (w_Spans_settle hp1))
  refine kx_if (fun _ => ?_) (fun _ => ?_)
  · intro h; have h := Option.some.inj h; subst h
    exact f1
  · refine kx_bind (fun p3 hp3 => ?_)
    have f2 : fr [72, 73, 74, 75, 76, 77, 78] I p3 := fr.trans f1 (fr.sub (by decide) (w_L_Spans_findNext_12 hp3))
    refine kx_lti (fun J4 eJ4 => ?_)
    have f3 : fr [72, 73, 74, 75, 76, 77, 78] I J4 := eJ4 ▸ fr.wr (by decide) f2
    refine kx_bind (fun p5 hp5 => ?_)
    have f4 : fr [72, 73, 74, 75, 76, 77, 78] I p5.2 := fr.trans f3 (fr.sub (by decide) (w_Spans_worstOf hp5))
    refine kx_lti (fun J6 eJ6 => ?_)
    have f5 : fr [72, 73, 74, 75, 76, 77, 78] I J6 := eJ6 ▸ fr.wr (by decide) f4
    refine kx_bind (fun p7 hp7 => ?_)
    have f6 : fr [72, 73, 74, 75, 76, 77, 78] I p7 := fr.trans f5 (fr.sub (by decide) (w_L_Spans_findNext_67 hp7))
    intro h; have h := Option.some.inj h; subst h
    exact f6
theorem w_H_next {C : HC} {I : HI} {x1 : Int32} {r : Int32 × HI} : M_H_next C I x1 = some r → fr [19, 24, 72, 73, 74, 75, 76, 77, 78, 87] I r.2 := by
  unfold M_H_next
  have f0 : fr [19, 24, 72, 73, 74, 75, 76, 77, 78, 87] I I := fr.refl
  refine kx_if (fun _ => ?_) (fun _ => ?_)
  · refine kx_bind (fun p2 hp2 => ?_)
    have f1 : fr [19, 24, 72, 73, 74, 75, 76, 77, 78, 87] I p2.2 := fr.trans f0 (fr.sub (by decide) (w_H_error hp2))
    intro h; have h := Option.some.inj h; subst h
    exact f1
  · refine kx_bind (fun p3 hp3 => ?_)
    have f2 : fr [19, 24, 72, 73, 74, 75, 76, 77, 78, 87] I p3 := fr.trans f0 (fr.sub (by decide) (w_Spans_load hp3))
    refine kx_if (fun _ => ?_) (fun _ => ?_)
    · refine kx_bind (fun p5 hp5 => ?_)
      have f3 : fr [19, 24, 72, 73, 74, 75, 76, 77, 78, 87] I p5.2 := fr.trans f2 (fr.sub (by decide) (w_H_error hp5))
      intro h; have h := Option.some.inj h; subst h
      exact f3
    · refine kx_bind (fun p6 hp6 => ?_)
      have f4 : fr [19, 24, 72, 73, 74, 75, 76, 77, 78, 87] I p6.2 := fr.trans f2 (fr.sub (by decide) (w_Spans_findNext hp6))
      refine kx_if (fun _ => ?_) (fun _ => ?_)
      · refine kx_bind (fun p8 hp8 => ?_)
        have f5 : fr [19, 24, 72, 73, 74, 75, 76, 77, 78, 87] I p8.2 := fr.trans f4 (fr.sub (by decide) (w_H_error hp8))
        intro h; have h := Option.some.inj h; subst h
        exact f5
      · refine kx_if (fun _ => ?_) (fun _ => ?_)
        · intro h; have h := Option.some.inj h; subst h
          exact f4
        · intro h; have h := Option.some.inj h; subst h
          exact f4
theorem w_H_join {C : HC} {I : HI} {x1 : Int32} {x2 : Int32} {r : Int32 × HI} : M_H_join C I x1 x2 = some r → fr [87] I r.2 := by
  unfold M_H_join
  have f0 : fr [87] I I := fr.refl
  refine kx_if (fun _ => ?_) (fun _ => ?_)
  · refine kx_bind (fun p2 hp2 => ?_)
    have f1 : fr [87] I p2.2 := fr.trans f0 (fr.sub (by decide) (w_H_error hp2))
    intro h; have h := Option.some.inj h; subst h
    exact f1
  · refine kx_bind (fun p3 hp3 => ?_)
    refine kx_if (fun _ => ?_) (fun _ => ?_)
    · intro h; have h := Option.some.inj h; subst h
      exact f0
    · intro h; have h := Option.some.inj h; subst h
      exact f0
theorem w_L_Sets_findBeasts_19 {C : HC} {x2 : Int32} : ∀ {f : Nat} {x3 : Int32} {I : HI} {r : HI}, L_Sets_findBeasts_19 C x2 f x3 I = some r → fr [66] I r := by
  intro f
  induction f with
  | zero => intro x3 I r h; rw [L_Sets_findBeasts_19] at h; cases h
  | succ f ih =>
    intro x3 I r
    rw [L_Sets_findBeasts_19]
    have f0 : fr [66] I I := fr.refl
    refine kx_if (fun _ => ?_) (fun _ => ?_)
    · intro h; have h := Option.some.inj h; subst h
      exact f0
    · refine kx_if (fun _ => ?_) (fun _ => ?_)
      · exact fun h => fr.trans f0 (ih h)
      · refine kx_bind (fun p3 hp3 => ?_)
        refine kx_if (fun _ => ?_) (fun _ => ?_)
        · exact fun h => fr.trans f0 (ih h)
        · refine kx_grd (fun b5 => ?_)
          refine kx_lti (fun J6 eJ6 => ?_)
          have f2 : fr [66] I J6 := eJ6 ▸ fr.wr (by decide) f0
          exact fun h => fr.trans f2 (ih h)
theorem w_L_Sets_findBeasts_2 {C : HC} : ∀ {f : Nat} {x2 : Int32} {I : HI} {r : HI}, L_Sets_findBeasts_2 C f x2 I = some r → fr [66] I r := by
  intro f
  induction f with
  | zero => intro x2 I r h; rw [L_Sets_findBeasts_2] at h; cases h
  | succ f ih =>
    intro x2 I r
    rw [L_Sets_findBeasts_2]
    have f0 : fr [66] I I := fr.refl
    refine kx_if (fun _ => ?_) (fun _ => ?_)
    · intro h; have h := Option.some.inj h; subst h
      exact f0
    · refine kx_grd (fun b2 => ?_)
      refine kx_lti (fun J3 eJ3 => ?_)
      have f1 : fr [66] I J3 := eJ3 ▸ fr.wr (by decide) f0
      refine kx_bind (fun p4 hp4 => ?_)
      have f2 : fr [66] I p4 := fr.trans f1 (fr.sub (by decide) (w_L_Sets_findBeasts_19 hp4))
      exact fun h => fr.trans f2 (ih h)
theorem w_L_Sets_findBeasts_79 {x2 : Int32} : ∀ {f : Nat} {x3 : Int32} {I : HI} {r : HI}, L_Sets_findBeasts_79 x2 f x3 I = some r → fr [71] I r := by
  intro f
  induction f with
  | zero => intro x3 I r h; rw [L_Sets_findBeasts_79] at h; cases h
  | succ f ih =>
    intro x3 I r
    rw [L_Sets_findBeasts_79]
    have f0 : fr [71] I I := fr.refl
    refine kx_if (fun _ => ?_) (fun _ => ?_)
    · intro h; have h := Option.some.inj h; subst h
      exact f0
    · refine kx_grd (fun b2 => ?_)
      refine kx_if (fun _ => ?_) (fun _ => ?_)
      · refine kx_grd (fun b4 => ?_)
        refine kx_lti (fun J5 eJ5 => ?_)
        have f1 : fr [71] I J5 := eJ5 ▸ fr.wr (by decide) f0
        exact fun h => fr.trans f1 (ih h)
      · refine kx_bind (fun p6 hp6 => ?_)
        refine kx_grd (fun b7 => ?_)
        refine kx_if (fun _ => ?_) (fun _ => ?_)
        · refine kx_grd (fun b9 => ?_)
          refine kx_lti (fun J10 eJ10 => ?_)
          have f3 : fr [71] I J10 := eJ10 ▸ fr.wr (by decide) f0
          exact fun h => fr.trans f3 (ih h)
        · refine kx_grd (fun b11 => ?_)
          refine kx_lti (fun J12 eJ12 => ?_)
          have f4 : fr [71] I J12 := eJ12 ▸ fr.wr (by decide) f0
          exact fun h => fr.trans f4 (ih h)
theorem w_Sets_findBeasts {C : HC} {I : HI} {r : HI} : M_Sets_findBeasts C I = some r → fr [66, 71] I r := by
  unfold M_Sets_findBeasts
  have f0 : fr [66, 71] I I := fr.refl
  refine kx_bind (fun p1 hp1 => ?_)
  have f1 : fr [66, 71] I p1 := fr.trans f0 (fr.sub (by decide) (w_L_Sets_findBeasts_2 hp1))
  refine kx_lti (fun J2 eJ2 => ?_)
  have f2 : fr [66, 71] I J2 := eJ2 ▸ fr.wr (by decide) f1
  refine kx_bind (fun p3 hp3 => ?_)
  have f3 : fr [66, 71] I p3 := fr.trans f2 (fr.sub (by decide) (w_L_Sets_findBeasts_79 hp3))
  intro h; have h := Option.some.inj h; subst h
  exact f3
theorem w_L_Sets_findJoinings_76 {x2 : Int32} {x3 : Int32} {x4 : Int32} {x5 : Int32} : ∀ {f : Nat} {x6 : Int32} {x7 : Int32} {I : HI} {r : HI}, L_Sets_findJoinings_76 x2 x3 x4 x5 f x6 x7 I = some r → fr [69, 70] I r := by
  intro f
  induction f with
  | zero => intro x6 x7 I r h; rw [L_Sets_findJoinings_76] at h; cases h
  | succ f ih =>
    intro x6 x7 I r
    rw [L_Sets_findJoinings_76]
    have f0 : fr [69, 70] I I := fr.refl
    refine kx_if (fun _ => ?_) (fun _ => ?_)
    · intro h; have h := Option.some.inj h; subst h
      exact f0
    · refine kx_grd (fun b2 => ?_)
      refine kx_if (fun _ => ?_) (fun _ => ?_)
      · exact fun h => fr.trans f0 (ih h)
      · refine kx_lti (fun y4 ey4 => ?_)
        refine kx_grd (fun b5 => ?_)
        refine kx_grd (fun b6 => ?_)
        refine kx_lti (fun J7 eJ7 => ?_)
        have f2 : fr [69, 70] I J7 := eJ7 ▸ fr.wr (by decide) f0
        refine kx_lti (fun J8 eJ8 => ?_)
        have f3 : fr [69, 70] I J8 := eJ8 ▸ fr.wr (by decide) f2
        exact fun h => fr.trans f3 (ih h)
theorem w_L_Sets_findJoinings_26 {x2 : Int32} : ∀ {f : Nat} {x3 : Int32} {I : HI} {r : HI}, L_Sets_findJoinings_26 x2 f x3 I = some r → fr [69, 70] I r := by
  intro f
  induction f with
  | zero => intro x3 I r h; rw [L_Sets_findJoinings_26] at h; cases h
  | succ f ih =>
    intro x3 I r
    rw [L_Sets_findJoinings_26]
    have f0 : fr [69, 70] I I := fr.refl
    refine kx_if (fun _ => ?_) (fun _ => ?_)
    · intro h; have h := Option.some.inj h; subst h
      exact f0
    · refine kx_grd (fun b2 => ?_)
      refine kx_lti (fun J3 eJ3 => ?_)
      have f1 : fr [69, 70] I J3 := eJ3 ▸ fr.wr (by decide) f0
      refine kx_lti (fun J4 eJ4 => ?_)
      have f2 : fr [69, 70] I J4 := eJ4 ▸ fr.wr (by decide) f1
      refine kx_bind (fun p5 hp5 => ?_)
      refine kx_grd (fun b6 => ?_)
      refine kx_lti (fun y7 ey7 => ?_)
      refine kx_bind (fun p8 hp8 => ?_)
      have f5 : fr [69, 70] I p8 := fr.trans f2 (fr.sub (by decide) (w_L_Sets_findJoinings_76 hp8))
      exact fun h => fr.trans f5 (ih h)
theorem w_Sets_findJoinings {C : HC} {I : HI} {r : HI} : M_Sets_findJoinings C I = some r → fr [66, 69, 70, 71] I r := by
  unfold M_Sets_findJoinings
  have f0 : fr [66, 69, 70, 71] I I := fr.refl
  refine kx_bind (fun p1 hp1 => ?_)
  have f1 : fr [66, 69, 70, 71] I p1 := fr.trans f0 (fr.sub (by decide) (w_Sets_findBeasts hp1))
  refine kx_lti (fun J2 eJ2 => ?_)
  have f2 : fr [66, 69, 70, 71] I J2 := eJ2 ▸ fr.wr (by decide) f1
  refine kx_lti (fun J3 eJ3 => ?_)
  have f3 : fr [66, 69, 70, 71] I J3 := eJ3 ▸ fr.wr (by decide) f2
  refine kx_bind (fun p4 hp4 => ?_)
  have f4 : fr [66, 69, 70, 71] I p4 := fr.trans f3 (fr.sub (by decide) (w_L_Sets_findJoinings_26 hp4))
  intro h; have h := Option.some.inj h; subst h
  exact f4
theorem w_H_joinings {C : HC} {I : HI} {x1 : Int32} {r : Int32 × HI} : M_H_joinings C I x1 = some r → fr [66, 69, 70, 71, 87] I r.2 := by
  unfold M_H_joinings
  have f0 : fr [66, 69, 70, 71, 87] I I := fr.refl
  refine kx_if (fun _ => ?_) (fun _ => ?_)
  · refine kx_bind (fun p2 hp2 => ?_)
    have f1 : fr [66, 69, 70, 71, 87] I p2.2 := fr.trans f0 (fr.sub (by decide) (w_H_error hp2))
    intro h; have h := Option.some.inj h; subst h
    exact f1
  · refine kx_bind (fun p3 hp3 => ?_)
    have f2 : fr [66, 69, 70, 71, 87] I p3 := fr.trans f0 (fr.sub (by decide) (w_Sets_findJoinings hp3))
    refine kx_if (fun _ => ?_) (fun _ => ?_)
    · refine kx_bind (fun p5 hp5 => ?_)
      intro h; have h := Option.some.inj h; subst h
      exact f2
    · refine kx_bind (fun p6 hp6 => ?_)
      intro h; have h := Option.some.inj h; subst h
      exact f2
theorem w_L_Sets_findAlike_2 : ∀ {f : Nat} {x2 : Int32} {I : HI} {r : HI}, L_Sets_findAlike_2 f x2 I = some r → fr [68] I r := by
  intro f
  induction f with
  | zero => intro x2 I r h; rw [L_Sets_findAlike_2] at h; cases h
  | succ f ih =>
    intro x2 I r
    rw [L_Sets_findAlike_2]
    have f0 : fr [68] I I := fr.refl
    refine kx_if (fun _ => ?_) (fun _ => ?_)
    · intro h; have h := Option.some.inj h; subst h
      exact f0
    · refine kx_grd (fun b2 => ?_)
      refine kx_lti (fun J3 eJ3 => ?_)
      have f1 : fr [68] I J3 := eJ3 ▸ fr.wr (by decide) f0
      exact fun h => fr.trans f1 (ih h)
theorem w_L_Sets_findAlike_22 {C : HC} : ∀ {f : Nat} {x2 : Int32} {I : HI} {r : HI}, L_Sets_findAlike_22 C f x2 I = some r → fr [68] I r := by
  intro f
  induction f with
  | zero => intro x2 I r h; rw [L_Sets_findAlike_22] at h; cases h
  | succ f ih =>
    intro x2 I r
    rw [L_Sets_findAlike_22]
    have f0 : fr [68] I I := fr.refl
    refine kx_if (fun _ => ?_) (fun _ => ?_)
    · intro h; have h := Option.some.inj h; subst h
      exact f0
    · refine kx_grd (fun _ => ?_)
      refine kx_grd (fun b3 => ?_)
      refine kx_lti (fun J4 eJ4 => ?_)
      have f1 : fr [68] I J4 := eJ4 ▸ fr.wr (by decide) f0
      exact fun h => fr.trans f1 (ih h)
theorem w_Sets_findAlike {C : HC} {I : HI} {r : HI} : M_Sets_findAlike C I = some r → fr [68] I r := by
  unfold M_Sets_findAlike
  have f0 : fr [68] I I := fr.refl
  refine kx_bind (fun p1 hp1 => ?_)
  have f1 : fr [68] I p1 := fr.trans f0 (fr.sub (by decide) (w_L_Sets_findAlike_2 hp1))
  refine kx_bind (fun p2 hp2 => ?_)
  have f2 : fr [68] I p2 := fr.trans f1 (fr.sub (by decide) (w_L_Sets_findAlike_22 hp2))
  intro h; have h := Option.some.inj h; subst h
  exact f2
theorem w_L_Sets_findTimes_52 {x3 : Int32} {x4 : Int32} : ∀ {f : Nat} {x5 : Int32} {I : HI} {r : HI}, L_Sets_findTimes_52 x3 x4 f x5 I = some r → fr [70] I r := by
  intro f
  induction f with
  | zero => intro x5 I r h; rw [L_Sets_findTimes_52] at h; cases h
  | succ f ih =>
    intro x5 I r
    rw [L_Sets_findTimes_52]
    have f0 : fr [70] I I := fr.refl
    refine kx_if (fun _ => ?_) (fun _ => ?_)
    · intro h; have h := Option.some.inj h; subst h
      exact f0
    · refine kx_grd (fun b2 => ?_)
      refine kx_if (fun _ => ?_) (fun _ => ?_)
      · exact fun h => fr.trans f0 (ih h)
      · refine kx_grd (fun b4 => ?_)
        refine kx_grd (fun b5 => ?_)
        refine kx_lti (fun J6 eJ6 => ?_)
        have f1 : fr [70] I J6 := eJ6 ▸ fr.wr (by decide) f0
        exact fun h => fr.trans f1 (ih h)
theorem w_L_Sets_findTimes_26 : ∀ {f : Nat} {x3 : Int32} {I : HI} {r : HI}, L_Sets_findTimes_26 f x3 I = some r → fr [70] I r := by
  intro f
  induction f with
  | zero => intro x3 I r h; rw [L_Sets_findTimes_26] at h; cases h
  | succ f ih =>
    intro x3 I r
    rw [L_Sets_findTimes_26]
    have f0 : fr [70] I I := fr.refl
    refine kx_if (fun _ => ?_) (fun _ => ?_)
    · intro h; have h := Option.some.inj h; subst h
      exact f0
    · refine kx_bind (fun p2 hp2 => ?_)
      refine kx_grd (fun b3 => ?_)
      refine kx_lti (fun J4 eJ4 => ?_)
      have f2 : fr [70] I J4 := eJ4 ▸ fr.wr (by decide) f0
      refine kx_bind (fun p5 hp5 => ?_)
      have f3 : fr [70] I p5 := fr.trans f2 (fr.sub (by decide) (w_L_Sets_findTimes_52 hp5))
      exact fun h => fr.trans f3 (ih h)
theorem w_Sets_findTimes {C : HC} {I : HI} {r : Int32 × HI} : M_Sets_findTimes C I = some r → fr [65, 68, 70] I r.2 := by
  unfold M_Sets_findTimes
  have f0 : fr [65, 68, 70] I I := fr.refl
  refine kx_bind (fun p1 hp1 => ?_)
  have f1 : fr [65, 68, 70] I p1 := fr.trans f0 (fr.sub (by decide) (w_Sets_findBelow hp1))
  refine kx_bind (fun p2 hp2 => ?_)
  have f2 : fr [65, 68, 70] I p2 := fr.trans f1 (fr.sub (by decide) (w_Sets_findAlike hp2))
  refine kx_grd (fun b3 => ?_)
  refine kx_lti (fun J4 eJ4 => ?_)
  have f3 : fr [65, 68, 70] I J4 := eJ4 ▸ fr.wr (by decide) f2
  refine kx_bind (fun p5 hp5 => ?_)
  have f4 : fr [65, 68, 70] I p5 := fr.trans f3 (fr.sub (by decide) (w_L_Sets_findTimes_26 hp5))
  refine kx_if (fun _ => ?_) (fun _ => ?_)
  · intro h; have h := Option.some.inj h; subst h
    exact f4
  · intro h; have h := Option.some.inj h; subst h
    exact f4
theorem w_H_times {C : HC} {I : HI} {x1 : Int32} {r : Int32 × HI} : M_H_times C I x1 = some r → fr [65, 68, 70, 87] I r.2 := by
  unfold M_H_times
  have f0 : fr [65, 68, 70, 87] I I := fr.refl
  refine kx_if (fun _ => ?_) (fun _ => ?_)
  · refine kx_bind (fun p2 hp2 => ?_)
    have f1 : fr [65, 68, 70, 87] I p2.2 := fr.trans f0 (fr.sub (by decide) (w_H_error hp2))
    intro h; have h := Option.some.inj h; subst h
    exact f1
  · refine kx_bind (fun p3 hp3 => ?_)
    have f2 : fr [65, 68, 70, 87] I p3.2 := fr.trans f0 (fr.sub (by decide) (w_Sets_findTimes hp3))
    refine kx_if (fun _ => ?_) (fun _ => ?_)
    · refine kx_bind (fun p5 hp5 => ?_)
      have f3 : fr [65, 68, 70, 87] I p5.2 := fr.trans f2 (fr.sub (by decide) (w_H_error hp5))
      intro h; have h := Option.some.inj h; subst h
      exact f3
    · refine kx_if (fun _ => ?_) (fun _ => ?_)
      · intro h; have h := Option.some.inj h; subst h
        exact f2
      · refine kx_bind (fun p7 hp7 => ?_)
        intro h; have h := Option.some.inj h; subst h
        exact f2
theorem w_H_lamp {C : HC} {I : HI} {x1 : Int32} {x2 : Int32} {r : Int32 × HI} : M_H_lamp C I x1 x2 = some r → fr [87] I r.2 := by
  unfold M_H_lamp
  have f0 : fr [87] I I := fr.refl
  refine kx_if (fun _ => ?_) (fun _ => ?_)
  · refine kx_bind (fun p2 hp2 => ?_)
    have f1 : fr [87] I p2.2 := fr.trans f0 (fr.sub (by decide) (w_H_error hp2))
    intro h; have h := Option.some.inj h; subst h
    exact f1
  · refine kx_if (fun _ => ?_) (fun _ => ?_)
    · refine kx_bind (fun p4 hp4 => ?_)
      have f2 : fr [87] I p4.2 := fr.trans f0 (fr.sub (by decide) (w_H_error hp4))
      intro h; have h := Option.some.inj h; subst h
      exact f2
    · refine kx_bind (fun p5 hp5 => ?_)
      intro h; have h := Option.some.inj h; subst h
      exact f0
theorem w_H_hand {C : HC} {I : HI} {x1 : Int32} {r : Int32 × HI} : M_H_hand C I x1 = some r → fr [87] I r.2 := by
  unfold M_H_hand
  have f0 : fr [87] I I := fr.refl
  refine kx_if (fun _ => ?_) (fun _ => ?_)
  · refine kx_bind (fun p2 hp2 => ?_)
    have f1 : fr [87] I p2.2 := fr.trans f0 (fr.sub (by decide) (w_H_error hp2))
    intro h; have h := Option.some.inj h; subst h
    exact f1
  · refine kx_bind (fun p3 hp3 => ?_)
    intro h; have h := Option.some.inj h; subst h
    exact f0
theorem w_Wall_drawn {I : HI} {r : Int32 × HI} : M_Wall_drawn I = r → fr [1] I r.2 := by
  unfold M_Wall_drawn
  have f0 : fr [1] I I := fr.refl
  refine kx_lti (fun J1 eJ1 => ?_)
  have f1 : fr [1] I J1 := eJ1 ▸ fr.wr (by decide) f0
  rintro rfl
  exact f1
theorem w_Wall_turnLook {I : HI} {x1 : Int32} {r : HI} : M_Wall_turnLook I x1 = some r → fr [11, 12] I r := by
  unfold M_Wall_turnLook
  have f0 : fr [11, 12] I I := fr.refl
  refine kx_grd (fun b1 => ?_)
  refine kx_lti (fun J2 eJ2 => ?_)
  have f1 : fr [11, 12] I J2 := eJ2 ▸ fr.wr (by decide) f0
  refine kx_lti (fun J3 eJ3 => ?_)
  have f2 : fr [11, 12] I J3 := eJ3 ▸ fr.wr (by decide) f1
  intro h; have h := Option.some.inj h; subst h
  exact f2
theorem w_L_H_again_4 : ∀ {f : Nat} {x1 : Int32} {x2 : Int32} {I : HI} {r : Int32 × HI}, L_H_again_4 f x1 x2 I = some r → fr [1, 11, 12] I r.2 := by
  intro f
  induction f with
  | zero => intro x1 x2 I r h; rw [L_H_again_4] at h; cases h
  | succ f ih =>
    intro x1 x2 I r
    rw [L_H_again_4]
    have f0 : fr [1, 11, 12] I I := fr.refl
    refine kx_if (fun _ => ?_) (fun _ => ?_)
    · intro h; have h := Option.some.inj h; subst h
      exact f0
    · refine kx_lti (fun p2 hp2 => ?_)
      have f1 : fr [1, 11, 12] I p2.2 := fr.trans f0 (fr.sub (by decide) (w_Wall_drawn hp2))
      refine kx_grd (fun b3 => ?_)
      refine kx_if (fun _ => ?_) (fun _ => ?_)
      · exact fun h => fr.trans f1 (ih h)
      · refine kx_bind (fun p5 hp5 => ?_)
        have f2 : fr [1, 11, 12] I p5 := fr.trans f1 (fr.sub (by decide) (w_Wall_turnLook hp5))
        exact fun h => fr.trans f2 (ih h)
theorem w_H_again {I : HI} {r : Int32 × HI} : M_H_again I = some r → fr [1, 11, 12] I r.2 := by
  unfold M_H_again
  have f0 : fr [1, 11, 12] I I := fr.refl
  refine kx_bind (fun p1 hp1 => ?_)
  have f1 : fr [1, 11, 12] I p1.2 := fr.trans f0 (fr.sub (by decide) (w_L_H_again_4 hp1))
  intro h; have h := Option.some.inj h; subst h
  exact f1
theorem w_H_seed {I : HI} {x1 : Int32} {r : Int32 × HI} : M_H_seed I x1 = r → fr [1] I r.2 := by
  unfold M_H_seed
  have f0 : fr [1] I I := fr.refl
  refine kx_lti (fun J1 eJ1 => ?_)
  have f1 : fr [1] I J1 := eJ1 ▸ fr.wr (by decide) f0
  rintro rfl
  exact f1
theorem w_Stroke_begin {I : HI} {x1 : Int32} {r : HI} : M_Stroke_begin I x1 = some r → fr [86] I r := by
  unfold M_Stroke_begin
  have f0 : fr [86] I I := fr.refl
  refine kx_if (fun _ => ?_) (fun _ => ?_)
  · intro h; have h := Option.some.inj h; subst h
    exact f0
  · refine kx_lti (fun J2 eJ2 => ?_)
    have f1 : fr [86] I J2 := eJ2 ▸ fr.wr (by decide) f0
    refine kx_grd (fun b3 => ?_)
    refine kx_lti (fun J4 eJ4 => ?_)
    have f2 : fr [86] I J4 := eJ4 ▸ fr.wr (by decide) f1
    intro h; have h := Option.some.inj h; subst h
    exact f2
theorem w_Stroke_draws {I : HI} {q0 : Nat} {x2 : Int32} {r : Int32 × HI} : M_Stroke_draws I q0 x2 = some r → fr [86] I r.2 := by
  unfold M_Stroke_draws
  have f0 : fr [86] I I := fr.refl
  refine kx_bind (fun p1 hp1 => ?_)
  have f1 : fr [86] I p1 := fr.trans f0 (fr.sub (by decide) (w_Stroke_begin hp1))
  intro h; have h := Option.some.inj h; subst h
  exact f1
theorem w_Black_draws {I : HI} {q0 : Nat} {x2 : Int32} {r : Int32 × HI} : M_Black_draws I q0 x2 = some r → fr [86] I r.2 := by
  unfold M_Black_draws
  have f0 : fr [86] I I := fr.refl
  refine kx_bind (fun p1 hp1 => ?_)
  have f1 : fr [86] I p1 := fr.trans f0 (fr.sub (by decide) (w_Stroke_begin hp1))
  refine kx_bind (fun p2 hp2 => ?_)
  have f2 : fr [86] I p2.2 := fr.trans f1 (fr.sub (by decide) (w_Stroke_draws hp2))
  intro h; have h := Option.some.inj h; subst h
  exact f2
theorem w_Vdraws {C : HC} {I : HI} {q0 : Nat} {x2 : Int32} {r : Int32 × HI} : M_Vdraws C I q0 x2 = some r → fr [86] I r.2 := by
  unfold M_Vdraws
  refine kx_if (fun _ => ?_) (fun _ => ?_)
  · exact fun h => fr.sub (by decide) (w_Stroke_draws h)
  ·
    refine kx_if (fun _ => ?_) (fun _ => ?_)
    · exact fun h => fr.sub (by decide) (w_Stroke_draws h)
    ·
      refine kx_if (fun _ => ?_) (fun _ => ?_)
      · exact fun h => fr.sub (by decide) (w_Black_draws h)
      ·
        refine kx_if (fun _ => ?_) (fun _ => ?_)
        · exact fun h => fr.sub (by decide) (w_Stroke_draws h)
        ·
          refine kx_if (fun _ => ?_) (fun _ => ?_)
          · exact fun h => fr.sub (by decide) (w_Stroke_draws h)
          ·
            refine kx_if (fun _ => ?_) (fun _ => ?_)
            · exact fun h => fr.sub (by decide) (w_Black_draws h)
            ·
              exact fun h => fr.sub (by decide) (w_Stroke_draws h)
theorem w_Stroke_dries {C : HC} {I : HI} {q0 : Nat} {x2 : Int32} {r : Int32 × HI} : M_Stroke_dries C I q0 x2 = some r → fr [86] I r.2 := by
  unfold M_Stroke_dries
  have f0 : fr [86] I I := fr.refl
  refine kx_bind (fun p1 hp1 => ?_)
  have f1 : fr [86] I p1 := fr.trans f0 (fr.sub (by decide) (w_Stroke_begin hp1))
  refine kx_bind (fun p2 hp2 => ?_)
  have f2 : fr [86] I p2.2 := fr.trans f1 (fr.sub (by decide) (w_Vdraws hp2))
  intro h; have h := Option.some.inj h; subst h
  exact f2
theorem w_Stroke_peels {I : HI} {q0 : Nat} {x2 : Int32} {r : Int32 × HI} : M_Stroke_peels I q0 x2 = some r → fr [86] I r.2 := by
  unfold M_Stroke_peels
  have f0 : fr [86] I I := fr.refl
  refine kx_bind (fun p1 hp1 => ?_)
  have f1 : fr [86] I p1 := fr.trans f0 (fr.sub (by decide) (w_Stroke_begin hp1))
  intro h; have h := Option.some.inj h; subst h
  exact f1
theorem w_Red_dries {C : HC} {I : HI} {q0 : Nat} {x2 : Int32} {r : Int32 × HI} : M_Red_dries C I q0 x2 = some r → fr [86] I r.2 := by
  unfold M_Red_dries
  have f0 : fr [86] I I := fr.refl
  refine kx_bind (fun p1 hp1 => ?_)
  have f1 : fr [86] I p1 := fr.trans f0 (fr.sub (by decide) (w_Stroke_begin hp1))
  refine kx_bind (fun p2 hp2 => ?_)
  have f2 : fr [86] I p2.2 := fr.trans f1 (fr.sub (by decide) (w_Stroke_dries hp2))
  refine kx_bind (fun p3 hp3 => ?_)
  have f3 : fr [86] I p3.2 := fr.trans f2 (fr.sub (by decide) (w_Stroke_peels hp3))
  intro h; have h := Option.some.inj h; subst h
  exact f3
theorem w_Child_dries {C : HC} {I : HI} {q0 : Nat} {x2 : Int32} {r : Int32 × HI} : M_Child_dries C I q0 x2 = some r → fr [86] I r.2 := by
  unfold M_Child_dries
  have f0 : fr [86] I I := fr.refl
  refine kx_bind (fun p1 hp1 => ?_)
  have f1 : fr [86] I p1 := fr.trans f0 (fr.sub (by decide) (w_Stroke_begin hp1))
  refine kx_bind (fun p2 hp2 => ?_)
  have f2 : fr [86] I p2.2 := fr.trans f1 (fr.sub (by decide) (w_Red_dries hp2))
  intro h; have h := Option.some.inj h; subst h
  exact f2
theorem w_Vdries {C : HC} {I : HI} {q0 : Nat} {x2 : Int32} {r : Int32 × HI} : M_Vdries C I q0 x2 = some r → fr [86] I r.2 := by
  unfold M_Vdries
  refine kx_if (fun _ => ?_) (fun _ => ?_)
  · exact fun h => fr.sub (by decide) (w_Stroke_dries h)
  ·
    refine kx_if (fun _ => ?_) (fun _ => ?_)
    · exact fun h => fr.sub (by decide) (w_Red_dries h)
    ·
      refine kx_if (fun _ => ?_) (fun _ => ?_)
      · exact fun h => fr.sub (by decide) (w_Stroke_dries h)
      ·
        refine kx_if (fun _ => ?_) (fun _ => ?_)
        · exact fun h => fr.sub (by decide) (w_Stroke_dries h)
        ·
          refine kx_if (fun _ => ?_) (fun _ => ?_)
          · exact fun h => fr.sub (by decide) (w_Child_dries h)
          ·
            refine kx_if (fun _ => ?_) (fun _ => ?_)
            · exact fun h => fr.sub (by decide) (w_Stroke_dries h)
            ·
              exact fun h => fr.sub (by decide) (w_Stroke_dries h)
theorem w_Scratch_peels {I : HI} {q0 : Nat} {x2 : Int32} {r : Int32 × HI} : M_Scratch_peels I q0 x2 = some r → fr [86] I r.2 := by
  unfold M_Scratch_peels
  have f0 : fr [86] I I := fr.refl
  refine kx_bind (fun p1 hp1 => ?_)
  have f1 : fr [86] I p1 := fr.trans f0 (fr.sub (by decide) (w_Stroke_begin hp1))
  refine kx_bind (fun p2 hp2 => ?_)
  have f2 : fr [86] I p2.2 := fr.trans f1 (fr.sub (by decide) (w_Stroke_peels hp2))
  intro h; have h := Option.some.inj h; subst h
  exact f2
theorem w_Forged_peels {I : HI} {q0 : Nat} {x2 : Int32} {r : Int32 × HI} : M_Forged_peels I q0 x2 = some r → fr [86] I r.2 := by
  unfold M_Forged_peels
  have f0 : fr [86] I I := fr.refl
  refine kx_bind (fun p1 hp1 => ?_)
  have f1 : fr [86] I p1 := fr.trans f0 (fr.sub (by decide) (w_Stroke_begin hp1))
  refine kx_bind (fun p2 hp2 => ?_)
  have f2 : fr [86] I p2.2 := fr.trans f1 (fr.sub (by decide) (w_Scratch_peels hp2))
  intro h; have h := Option.some.inj h; subst h
  exact f2
theorem w_Vpeels {C : HC} {I : HI} {q0 : Nat} {x2 : Int32} {r : Int32 × HI} : M_Vpeels C I q0 x2 = some r → fr [86] I r.2 := by
  unfold M_Vpeels
  refine kx_if (fun _ => ?_) (fun _ => ?_)
  · exact fun h => fr.sub (by decide) (w_Stroke_peels h)
  ·
    refine kx_if (fun _ => ?_) (fun _ => ?_)
    · exact fun h => fr.sub (by decide) (w_Stroke_peels h)
    ·
      refine kx_if (fun _ => ?_) (fun _ => ?_)
      · exact fun h => fr.sub (by decide) (w_Stroke_peels h)
      ·
        refine kx_if (fun _ => ?_) (fun _ => ?_)
        · exact fun h => fr.sub (by decide) (w_Scratch_peels h)
        ·
          refine kx_if (fun _ => ?_) (fun _ => ?_)
          · exact fun h => fr.sub (by decide) (w_Stroke_peels h)
          ·
            refine kx_if (fun _ => ?_) (fun _ => ?_)
            · exact fun h => fr.sub (by decide) (w_Stroke_peels h)
            ·
              exact fun h => fr.sub (by decide) (w_Forged_peels h)
theorem w_Stroke_tells {C : HC} {I : HI} {q0 : Nat} {x2 : Int32} {r : Int32 × HI} : M_Stroke_tells C I q0 x2 = some r → fr [86] I r.2 := by
  unfold M_Stroke_tells
  have f0 : fr [86] I I := fr.refl
  refine kx_bind (fun p1 hp1 => ?_)
  have f1 : fr [86] I p1 := fr.trans f0 (fr.sub (by decide) (w_Stroke_begin hp1))
  refine kx_bind (fun p2 hp2 => ?_)
  have f2 : fr [86] I p2.2 := fr.trans f1 (fr.sub (by decide) (w_Vdries hp2))
  refine kx_bind (fun p3 hp3 => ?_)
  have f3 : fr [86] I p3.2 := fr.trans f2 (fr.sub (by decide) (w_Vpeels hp3))
  intro h; have h := Option.some.inj h; subst h
  exact f3
theorem w_Soot_tells {C : HC} {I : HI} {q0 : Nat} {x2 : Int32} {r : Int32 × HI} : M_Soot_tells C I q0 x2 = some r → fr [86] I r.2 := by
  unfold M_Soot_tells
  have f0 : fr [86] I I := fr.refl
  refine kx_bind (fun p1 hp1 => ?_)
  have f1 : fr [86] I p1 := fr.trans f0 (fr.sub (by decide) (w_Stroke_begin hp1))
  refine kx_bind (fun p2 hp2 => ?_)
  have f2 : fr [86] I p2.2 := fr.trans f1 (fr.sub (by decide) (w_Stroke_tells hp2))
  refine kx_bind (fun p3 hp3 => ?_)
  have f3 : fr [86] I p3.2 := fr.trans f2 (fr.sub (by decide) (w_Black_draws hp3))
  intro h; have h := Option.some.inj h; subst h
  exact f3
theorem w_Forged_tells {C : HC} {I : HI} {q0 : Nat} {x2 : Int32} {r : Int32 × HI} : M_Forged_tells C I q0 x2 = some r → fr [86] I r.2 := by
  unfold M_Forged_tells
  have f0 : fr [86] I I := fr.refl
  refine kx_bind (fun p1 hp1 => ?_)
  have f1 : fr [86] I p1 := fr.trans f0 (fr.sub (by decide) (w_Stroke_begin hp1))
  refine kx_bind (fun p2 hp2 => ?_)
  have f2 : fr [86] I p2.2 := fr.trans f1 (fr.sub (by decide) (w_Stroke_dries hp2))
  refine kx_bind (fun p3 hp3 => ?_)
  have f3 : fr [86] I p3.2 := fr.trans f2 (fr.sub (by decide) (w_Stroke_tells hp3))
  intro h; have h := Option.some.inj h; subst h
  exact f3
theorem w_Vtells {C : HC} {I : HI} {q0 : Nat} {x2 : Int32} {r : Int32 × HI} : M_Vtells C I q0 x2 = some r → fr [86] I r.2 := by
  unfold M_Vtells
  refine kx_if (fun _ => ?_) (fun _ => ?_)
  · exact fun h => fr.sub (by decide) (w_Stroke_tells h)
  ·
    refine kx_if (fun _ => ?_) (fun _ => ?_)
    · exact fun h => fr.sub (by decide) (w_Stroke_tells h)
    ·
      refine kx_if (fun _ => ?_) (fun _ => ?_)
      · exact fun h => fr.sub (by decide) (w_Stroke_tells h)
      ·
        refine kx_if (fun _ => ?_) (fun _ => ?_)
        · exact fun h => fr.sub (by decide) (w_Stroke_tells h)
        ·
          refine kx_if (fun _ => ?_) (fun _ => ?_)
          · exact fun h => fr.sub (by decide) (w_Stroke_tells h)
          ·
            refine kx_if (fun _ => ?_) (fun _ => ?_)
            · exact fun h => fr.sub (by decide) (w_Soot_tells h)
            ·
              exact fun h => fr.sub (by decide) (w_Forged_tells h)
theorem w_H_voice {C : HC} {I : HI} {x1 : Int32} {x2 : Int32} {x3 : Int32} {r : Int32 × HI} : M_H_voice C I x1 x2 x3 = some r → fr [86, 87] I r.2 := by
  unfold M_H_voice
  have f0 : fr [86, 87] I I := fr.refl
  refine kx_if (fun _ => ?_) (fun _ => ?_)
  · refine kx_bind (fun p2 hp2 => ?_)
    have f1 : fr [86, 87] I p2.2 := fr.trans f0 (fr.sub (by decide) (w_H_error hp2))
    intro h; have h := Option.some.inj h; subst h
    exact f1
  · refine kx_if (fun _ => ?_) (fun _ => ?_)
    · refine kx_bind (fun p4 hp4 => ?_)
      have f2 : fr [86, 87] I p4.2 := fr.trans f0 (fr.sub (by decide) (w_H_error hp4))
      intro h; have h := Option.some.inj h; subst h
      exact f2
    · refine kx_lti (fun J5 eJ5 => ?_)
      have f3 : fr [86, 87] I J5 := eJ5 ▸ fr.wr (by decide) f0
      refine kx_if (fun _ => ?_) (fun _ => ?_)
      · refine kx_grd (fun _ => ?_)
        refine kx_bind (fun p8 hp8 => ?_)
        have f4 : fr [86, 87] I p8.2 := fr.trans f3 (fr.sub (by decide) (w_Vdraws hp8))
        intro h; have h := Option.some.inj h; subst h
        exact f4
      · refine kx_if (fun _ => ?_) (fun _ => ?_)
        · refine kx_grd (fun _ => ?_)
          refine kx_bind (fun p11 hp11 => ?_)
          have f5 : fr [86, 87] I p11.2 := fr.trans f3 (fr.sub (by decide) (w_Vdries hp11))
          intro h; have h := Option.some.inj h; subst h
          exact f5
        · refine kx_if (fun _ => ?_) (fun _ => ?_)
          · refine kx_grd (fun _ => ?_)
            refine kx_bind (fun p14 hp14 => ?_)
            have f6 : fr [86, 87] I p14.2 := fr.trans f3 (fr.sub (by decide) (w_Vpeels hp14))
            intro h; have h := Option.some.inj h; subst h
            exact f6
          · refine kx_grd (fun _ => ?_)
            refine kx_bind (fun p16 hp16 => ?_)
            have f7 : fr [86, 87] I p16.2 := fr.trans f3 (fr.sub (by decide) (w_Vtells hp16))
            intro h; have h := Option.some.inj h; subst h
            exact f7
theorem w_H_trace {I : HI} {x1 : Int32} {r : Int32 × HI} : M_H_trace I x1 = some r → fr [87] I r.2 := by
  unfold M_H_trace
  have f0 : fr [87] I I := fr.refl
  refine kx_if (fun _ => ?_) (fun _ => ?_)
  · refine kx_bind (fun p2 hp2 => ?_)
    have f1 : fr [87] I p2.2 := fr.trans f0 (fr.sub (by decide) (w_H_error hp2))
    intro h; have h := Option.some.inj h; subst h
    exact f1
  · refine kx_if (fun _ => ?_) (fun _ => ?_)
    · refine kx_bind (fun p4 hp4 => ?_)
      have f2 : fr [87] I p4.2 := fr.trans f0 (fr.sub (by decide) (w_H_error hp4))
      intro h; have h := Option.some.inj h; subst h
      exact f2
    · refine kx_if (fun _ => ?_) (fun _ => ?_)
      · refine kx_grd (fun b6 => ?_)
        intro h; have h := Option.some.inj h; subst h
        exact f0
      · refine kx_bind (fun p7 hp7 => ?_)
        have f3 : fr [87] I p7.2 := fr.trans f0 (fr.sub (by decide) (w_H_error hp7))
        intro h; have h := Option.some.inj h; subst h
        exact f3
theorem w_L_H_sheet_75 {x1 : Int32} : ∀ {f : Nat} {x4 : Int32} {I : HI} {r : HI}, L_H_sheet_75 x1 f x4 I = some r → fr [80, 81, 82, 83] I r := by
  intro f
  induction f with
  | zero => intro x4 I r h; rw [L_H_sheet_75] at h; cases h
  | succ f ih =>
    intro x4 I r
    rw [L_H_sheet_75]
    have f0 : fr [80, 81, 82, 83] I I := fr.refl
    refine kx_if (fun _ => ?_) (fun _ => ?_)
    · intro h; have h := Option.some.inj h; subst h
      exact f0
    · refine kx_grd (fun b2 => ?_)
      refine kx_grd (fun b3 => ?_)
      refine kx_lti (fun J4 eJ4 => ?_)
      have f1 : fr [80, 81, 82, 83] I J4 := eJ4 ▸ fr.wrS (bnd_lt b2) (by decide) f0
      exact fun h => fr.trans f1 (ih h)
theorem w_H_sheet {I : HI} {x1 : Int32} {x2 : Int32} {x3 : Int32} {r : Int32 × HI} : M_H_sheet I x1 x2 x3 = some r → fr [80, 81, 82, 83, 84, 85, 87] I r.2 := by
  unfold M_H_sheet
  have f0 : fr [80, 81, 82, 83, 84, 85, 87] I I := fr.refl
  refine kx_if (fun _ => ?_) (fun _ => ?_)
  · refine kx_bind (fun p2 hp2 => ?_)
    have f1 : fr [80, 81, 82, 83, 84, 85, 87] I p2.2 := fr.trans f0 (fr.sub (by decide) (w_H_error hp2))
    intro h; have h := Option.some.inj h; subst h
    exact f1
  · refine kx_if (fun _ => ?_) (fun _ => ?_)
    · refine kx_bind (fun p4 hp4 => ?_)
      have f2 : fr [80, 81, 82, 83, 84, 85, 87] I p4.2 := fr.trans f0 (fr.sub (by decide) (w_H_error hp4))
      intro h; have h := Option.some.inj h; subst h
      exact f2
    · refine kx_if (fun _ => ?_) (fun _ => ?_)
      · refine kx_grd (fun b6 => ?_)
        refine kx_lti (fun J7 eJ7 => ?_)
        have f3 : fr [80, 81, 82, 83, 84, 85, 87] I J7 := eJ7 ▸ fr.wr (by decide) f0
        refine kx_lti (fun J8 eJ8 => ?_)
        have f4 : fr [80, 81, 82, 83, 84, 85, 87] I J8 := eJ8 ▸ fr.wr (by decide) f3
        refine kx_bind (fun p9 hp9 => ?_)
        have f5 : fr [80, 81, 82, 83, 84, 85, 87] I p9 := fr.trans f4 (fr.sub (by decide) (w_L_H_sheet_75 hp9))
        intro h; have h := Option.some.inj h; subst h
        exact f5
      · refine kx_if (fun _ => ?_) (fun _ => ?_)
        · refine kx_if (fun _ => ?_) (fun _ => ?_)
          · refine kx_grd (fun b12 => ?_)
            refine kx_lti (fun J13 eJ13 => ?_)
            have f6 : fr [80, 81, 82, 83, 84, 85, 87] I J13 := eJ13 ▸ fr.wr (by decide) f0
            refine kx_lti (fun J14 eJ14 => ?_)
            have f7 : fr [80, 81, 82, 83, 84, 85, 87] I J14 := eJ14 ▸ fr.wr (by decide) f6
            refine kx_bind (fun p15 hp15 => ?_)
            have f8 : fr [80, 81, 82, 83, 84, 85, 87] I p15 := fr.trans f7 (fr.sub (by decide) (w_L_H_sheet_75 hp15))
            intro h; have h := Option.some.inj h; subst h
            exact f8
          · refine kx_bind (fun p16 hp16 => ?_)
            have f9 : fr [80, 81, 82, 83, 84, 85, 87] I p16.2 := fr.trans f0 (fr.sub (by decide) (w_H_error hp16))
            intro h; have h := Option.some.inj h; subst h
            exact f9
        · refine kx_bind (fun p17 hp17 => ?_)
          have f10 : fr [80, 81, 82, 83, 84, 85, 87] I p17.2 := fr.trans f0 (fr.sub (by decide) (w_H_error hp17))
          intro h; have h := Option.some.inj h; subst h
          exact f10
theorem w_H_put {I : HI} {x1 : Int32} {x2 : Int32} {x3 : Int32} {r : Int32 × HI} : M_H_put I x1 x2 x3 = some r → fr [80, 81, 82, 83, 87] I r.2 := by
  unfold M_H_put
  have f0 : fr [80, 81, 82, 83, 87] I I := fr.refl
  refine kx_if (fun _ => ?_) (fun _ => ?_)
  · refine kx_bind (fun p2 hp2 => ?_)
    have f1 : fr [80, 81, 82, 83, 87] I p2.2 := fr.trans f0 (fr.sub (by decide) (w_H_error hp2))
    intro h; have h := Option.some.inj h; subst h
    exact f1
  · refine kx_grd (fun b3 => ?_)
    refine kx_if (fun _ => ?_) (fun _ => ?_)
    · refine kx_bind (fun p5 hp5 => ?_)
      have f2 : fr [80, 81, 82, 83, 87] I p5.2 := fr.trans f0 (fr.sub (by decide) (w_H_error hp5))
      intro h; have h := Option.some.inj h; subst h
      exact f2
    · refine kx_if (fun _ => ?_) (fun _ => ?_)
      · refine kx_bind (fun p7 hp7 => ?_)
        have f3 : fr [80, 81, 82, 83, 87] I p7.2 := fr.trans f0 (fr.sub (by decide) (w_H_error hp7))
        intro h; have h := Option.some.inj h; subst h
        exact f3
      · refine kx_if (fun _ => ?_) (fun _ => ?_)
        · refine kx_grd (fun b9 => ?_)
          refine kx_lti (fun J10 eJ10 => ?_)
          have f4 : fr [80, 81, 82, 83, 87] I J10 := eJ10 ▸ fr.wrS (bnd_lt b3) (by decide) f0
          intro h; have h := Option.some.inj h; subst h
          exact f4
        · refine kx_bind (fun p11 hp11 => ?_)
          have f5 : fr [80, 81, 82, 83, 87] I p11.2 := fr.trans f0 (fr.sub (by decide) (w_H_error hp11))
          intro h; have h := Option.some.inj h; subst h
          exact f5
theorem w_H_move {I : HI} {x1 : Int32} {x2 : Int32} {x3 : Int32} {x4 : Int32} {x5 : Int32} {r : Int32 × HI} : M_H_move I x1 x2 x3 x4 x5 = some r → fr [80, 81, 82, 83, 87] I r.2 := by
  unfold M_H_move
  have f0 : fr [80, 81, 82, 83, 87] I I := fr.refl
  refine kx_if (fun _ => ?_) (fun _ => ?_)
  · refine kx_bind (fun p2 hp2 => ?_)
    have f1 : fr [80, 81, 82, 83, 87] I p2.2 := fr.trans f0 (fr.sub (by decide) (w_H_error hp2))
    intro h; have h := Option.some.inj h; subst h
    exact f1
  · refine kx_if (fun _ => ?_) (fun _ => ?_)
    · refine kx_bind (fun p4 hp4 => ?_)
      have f2 : fr [80, 81, 82, 83, 87] I p4.2 := fr.trans f0 (fr.sub (by decide) (w_H_error hp4))
      intro h; have h := Option.some.inj h; subst h
      exact f2
    · refine kx_grd (fun b5 => ?_)
      refine kx_if (fun _ => ?_) (fun _ => ?_)
      · refine kx_bind (fun p7 hp7 => ?_)
        have f3 : fr [80, 81, 82, 83, 87] I p7.2 := fr.trans f0 (fr.sub (by decide) (w_H_error hp7))
        intro h; have h := Option.some.inj h; subst h
        exact f3
      · refine kx_grd (fun b8 => ?_)
        refine kx_if (fun _ => ?_) (fun _ => ?_)
        · refine kx_bind (fun p10 hp10 => ?_)
          have f4 : fr [80, 81, 82, 83, 87] I p10.2 := fr.trans f0 (fr.sub (by decide) (w_H_error hp10))
          intro h; have h := Option.some.inj h; subst h
          exact f4
        · refine kx_if (fun _ => ?_) (fun _ => ?_)
          · refine kx_bind (fun p12 hp12 => ?_)
            refine kx_if (fun _ => ?_) (fun _ => ?_)
            · refine kx_bind (fun p14 hp14 => ?_)
              have f6 : fr [80, 81, 82, 83, 87] I p14.2 := fr.trans f0 (fr.sub (by decide) (w_H_error hp14))
              intro h; have h := Option.some.inj h; subst h
              exact f6
            · refine kx_bind (fun p15 hp15 => ?_)
              refine kx_if (fun _ => ?_) (fun _ => ?_)
              · refine kx_bind (fun p17 hp17 => ?_)
                have f8 : fr [80, 81, 82, 83, 87] I p17.2 := fr.trans f0 (fr.sub (by decide) (w_H_error hp17))
                intro h; have h := Option.some.inj h; subst h
                exact f8
              · refine kx_grd (fun _ => ?_)
                refine kx_lti (fun J18 eJ18 => ?_)
                have f9 : fr [80, 81, 82, 83, 87] I J18 := eJ18 ▸ fr.wrowS (bnd_lt b8) (by decide) f0
                intro h; have h := Option.some.inj h; subst h
                exact f9
          · refine kx_bind (fun p19 hp19 => ?_)
            have f10 : fr [80, 81, 82, 83, 87] I p19.2 := fr.trans f0 (fr.sub (by decide) (w_H_error hp19))
            intro h; have h := Option.some.inj h; subst h
            exact f10
