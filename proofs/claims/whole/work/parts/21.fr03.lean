theorem w_L_H_looks_40 {x1 : Int32} {g2 : Nat} : ∀ {f : Nat} {x3 : Int32} {x4 : Int32} {I : HI} {r : Nat × Int32 × HI}, L_H_looks_40 x1 g2 f x3 x4 I = some r → fr [1, 11, 12, 13] I r.2.2 := by
  intro f
  induction f with
  | zero => intro x3 x4 I r h; rw [L_H_looks_40] at h; cases h
  | succ f ih =>
    intro x3 x4 I r
    rw [L_H_looks_40]
    have f0 : fr [1, 11, 12, 13] I I := fr.refl
    refine kx_grd (fun b1 => ?_)
    refine kx_if (fun _ => ?_) (fun _ => ?_)
    · intro h; have h := Option.some.inj h; subst h
      exact f0
    · refine kx_if (fun _ => ?_) (fun _ => ?_)
      · intro h; have h := Option.some.inj h; subst h
        exact f0
      · refine kx_grd (fun b4 => ?_)
        refine kx_grd (fun b5 => ?_)
        refine kx_grd (fun b6 => ?_)
        refine kx_if (fun _ => ?_) (fun _ => ?_)
        · intro h; have h := Option.some.inj h; subst h
          exact f0
        · refine kx_bind (fun p8 hp8 => ?_)
          have f1 : fr [1, 11, 12, 13] I p8.2 := fr.trans f0 (fr.sub (by decide) (w_Wall_addLook hp8))
          exact fun h => fr.trans f1 (ih h)
theorem w_H_looks {I : HI} {x1 : Int32} {r : Int32 × HI} : M_H_looks I x1 = some r → fr [1, 11, 12, 13, 87] I r.2 := by
  unfold M_H_looks
  have f0 : fr [1, 11, 12, 13, 87] I I := fr.refl
  refine kx_if (fun _ => ?_) (fun _ => ?_)
  · refine kx_bind (fun p2 hp2 => ?_)
    have f1 : fr [1, 11, 12, 13, 87] I p2.2 := fr.trans f0 (fr.sub (by decide) (w_H_error hp2))
    intro h; have h := Option.some.inj h; subst h
    exact f1
  · refine kx_grd (fun b3 => ?_)
    refine kx_if (fun _ => ?_) (fun _ => ?_)
    · refine kx_bind (fun p5 hp5 => ?_)
      have f2 : fr [1, 11, 12, 13, 87] I p5.2 := fr.trans f0 (fr.sub (by decide) (w_H_error hp5))
      intro h; have h := Option.some.inj h; subst h
      exact f2
    · refine kx_bind (fun p6 hp6 => ?_)
      have f3 : fr [1, 11, 12, 13, 87] I p6.2.2 := fr.trans f0 (fr.sub (by decide) (w_L_H_looks_40 hp6))
      refine kx_if (fun _ => ?_) (fun _ => ?_)
      · intro h; have h := Option.some.inj h; subst h
        exact f3
      · intro h; have h := Option.some.inj h; subst h
        exact f3
theorem w_L_H_judge_37 {C : HC} {x1 : Int32} {g2 : Nat} : ∀ {f : Nat} {x3 : Int32} {I : HI} {r : Nat × Int32 × HI}, L_H_judge_37 C x1 g2 f x3 I = some r → fr [19, 24] I r.2.2 := by
  intro f
  induction f with
  | zero => intro x3 I r h; rw [L_H_judge_37] at h; cases h
  | succ f ih =>
    intro x3 I r
    rw [L_H_judge_37]
    have f0 : fr [19, 24] I I := fr.refl
    refine kx_if (fun _ => ?_) (fun _ => ?_)
    · intro h; have h := Option.some.inj h; subst h
      exact f0
    · refine kx_grd (fun b2 => ?_)
      refine kx_if (fun _ => ?_) (fun _ => ?_)
      · intro h; have h := Option.some.inj h; subst h
        exact f0
      · refine kx_grd (fun b4 => ?_)
        refine kx_bind (fun p5 hp5 => ?_)
        have f1 : fr [19, 24] I p5.2 := fr.trans f0 (fr.sub (by decide) (w_Wall_earlyOf hp5))
        refine kx_if (fun _ => ?_) (fun _ => ?_)
        · intro h; have h := Option.some.inj h; subst h
          exact f1
        · refine kx_bind (fun p7 hp7 => ?_)
          have f2 : fr [19, 24] I p7.2 := fr.trans f1 (fr.sub (by decide) (w_Wall_lateOf hp7))
          refine kx_if (fun _ => ?_) (fun _ => ?_)
          · intro h; have h := Option.some.inj h; subst h
            exact f2
          · refine kx_bind (fun p9 hp9 => ?_)
            refine kx_if (fun _ => ?_) (fun _ => ?_)
            · intro h; have h := Option.some.inj h; subst h
              exact f2
            · exact fun h => fr.trans f2 (ih h)
theorem w_H_judge {C : HC} {I : HI} {x1 : Int32} {r : Int32 × HI} : M_H_judge C I x1 = some r → fr [19, 24, 87] I r.2 := by
  unfold M_H_judge
  have f0 : fr [19, 24, 87] I I := fr.refl
  refine kx_if (fun _ => ?_) (fun _ => ?_)
  · refine kx_bind (fun p2 hp2 => ?_)
    have f1 : fr [19, 24, 87] I p2.2 := fr.trans f0 (fr.sub (by decide) (w_H_error hp2))
    intro h; have h := Option.some.inj h; subst h
    exact f1
  · refine kx_grd (fun b3 => ?_)
    refine kx_if (fun _ => ?_) (fun _ => ?_)
    · refine kx_bind (fun p5 hp5 => ?_)
      have f2 : fr [19, 24, 87] I p5.2 := fr.trans f0 (fr.sub (by decide) (w_H_error hp5))
      intro h; have h := Option.some.inj h; subst h
      exact f2
    · refine kx_bind (fun p6 hp6 => ?_)
      have f3 : fr [19, 24, 87] I p6.2.2 := fr.trans f0 (fr.sub (by decide) (w_L_H_judge_37 hp6))
      refine kx_if (fun _ => ?_) (fun _ => ?_)
      · intro h; have h := Option.some.inj h; subst h
        exact f3
      · intro h; have h := Option.some.inj h; subst h
        exact f3
theorem w_L_Text_copyFrom_2_10 : ∀ {f : Nat} {x2 : Int32} {I : HI} {r : HI}, L_Text_copyFrom_2_10 f x2 I = some r → fr [48, 49] I r := by
  intro f
  induction f with
  | zero => intro x2 I r h; rw [L_Text_copyFrom_2_10] at h; cases h
  | succ f ih =>
    intro x2 I r
    rw [L_Text_copyFrom_2_10]
    have f0 : fr [48, 49] I I := fr.refl
    refine kx_if (fun _ => ?_) (fun _ => ?_)
    · intro h; have h := Option.some.inj h; subst h
      exact f0
    · refine kx_grd (fun b2 => ?_)
      refine kx_lti (fun J3 eJ3 => ?_)
      have f1 : fr [48, 49] I J3 := eJ3 ▸ fr.wr (by decide) f0
      refine kx_lti (fun J4 eJ4 => ?_)
      have f2 : fr [48, 49] I J4 := eJ4 ▸ fr.wr (by decide) f1
      exact fun h => fr.trans f2 (ih h)
theorem w_Text_copyFrom_2 {I : HI} {r : HI} : M_Text_copyFrom_2 I = some r → fr [47, 48, 49] I r := by
  unfold M_Text_copyFrom_2
  have f0 : fr [47, 48, 49] I I := fr.refl
  refine kx_lti (fun J1 eJ1 => ?_)
  have f1 : fr [47, 48, 49] I J1 := eJ1 ▸ fr.wr (by decide) f0
  refine kx_bind (fun p2 hp2 => ?_)
  have f2 : fr [47, 48, 49] I p2 := fr.trans f1 (fr.sub (by decide) (w_L_Text_copyFrom_2_10 hp2))
  intro h; have h := Option.some.inj h; subst h
  exact f2
theorem w_L_Text_copyFrom_3_10 : ∀ {f : Nat} {x2 : Int32} {I : HI} {r : HI}, L_Text_copyFrom_3_10 f x2 I = some r → fr [53, 54] I r := by
  intro f
  induction f with
  | zero => intro x2 I r h; rw [L_Text_copyFrom_3_10] at h; cases h
  | succ f ih =>
    intro x2 I r
    rw [L_Text_copyFrom_3_10]
    have f0 : fr [53, 54] I I := fr.refl
    refine kx_if (fun _ => ?_) (fun _ => ?_)
    · intro h; have h := Option.some.inj h; subst h
      exact f0
    · refine kx_grd (fun b2 => ?_)
      refine kx_lti (fun J3 eJ3 => ?_)
      have f1 : fr [53, 54] I J3 := eJ3 ▸ fr.wr (by decide) f0
      refine kx_lti (fun J4 eJ4 => ?_)
      have f2 : fr [53, 54] I J4 := eJ4 ▸ fr.wr (by decide) f1
      exact fun h => fr.trans f2 (ih h)
theorem w_Text_copyFrom_3 {I : HI} {r : HI} : M_Text_copyFrom_3 I = some r → fr [52, 53, 54] I r := by
  unfold M_Text_copyFrom_3
  have f0 : fr [52, 53, 54] I I := fr.refl
  refine kx_lti (fun J1 eJ1 => ?_)
  have f1 : fr [52, 53, 54] I J1 := eJ1 ▸ fr.wr (by decide) f0
  refine kx_bind (fun p2 hp2 => ?_)
  have f2 : fr [52, 53, 54] I p2 := fr.trans f1 (fr.sub (by decide) (w_L_Text_copyFrom_3_10 hp2))
  intro h; have h := Option.some.inj h; subst h
  exact f2
theorem w_L_Wall_copyFrom_55 : ∀ {f : Nat} {x2 : Int32} {I : HI} {r : HI}, L_Wall_copyFrom_55 f x2 I = some r → fr [42, 43, 44] I r := by
  intro f
  induction f with
  | zero => intro x2 I r h; rw [L_Wall_copyFrom_55] at h; cases h
  | succ f ih =>
    intro x2 I r
    rw [L_Wall_copyFrom_55]
    have f0 : fr [42, 43, 44] I I := fr.refl
    refine kx_if (fun _ => ?_) (fun _ => ?_)
    · intro h; have h := Option.some.inj h; subst h
      exact f0
    · refine kx_grd (fun b2 => ?_)
      refine kx_lti (fun J3 eJ3 => ?_)
      have f1 : fr [42, 43, 44] I J3 := eJ3 ▸ fr.wr (by decide) f0
      refine kx_lti (fun J4 eJ4 => ?_)
      have f2 : fr [42, 43, 44] I J4 := eJ4 ▸ fr.wr (by decide) f1
      refine kx_lti (fun J5 eJ5 => ?_)
      have f3 : fr [42, 43, 44] I J5 := eJ5 ▸ fr.wr (by decide) f2
      exact fun h => fr.trans f3 (ih h)
theorem w_L_Text_copyFrom_4_10 : ∀ {f : Nat} {x2 : Int32} {I : HI} {r : HI}, L_Text_copyFrom_4_10 f x2 I = some r → fr [17, 18] I r := by
  intro f
  induction f with
  | zero => intro x2 I r h; rw [L_Text_copyFrom_4_10] at h; cases h
  | succ f ih =>
    intro x2 I r
    rw [L_Text_copyFrom_4_10]
    have f0 : fr [17, 18] I I := fr.refl
    refine kx_if (fun _ => ?_) (fun _ => ?_)
    · intro h; have h := Option.some.inj h; subst h
      exact f0
    · refine kx_grd (fun b2 => ?_)
      refine kx_lti (fun J3 eJ3 => ?_)
      have f1 : fr [17, 18] I J3 := eJ3 ▸ fr.wr (by decide) f0
      refine kx_lti (fun J4 eJ4 => ?_)
      have f2 : fr [17, 18] I J4 := eJ4 ▸ fr.wr (by decide) f1
      exact fun h => fr.trans f2 (ih h)
theorem w_Text_copyFrom_4 {I : HI} {r : HI} : M_Text_copyFrom_4 I = some r → fr [16, 17, 18] I r := by
  unfold M_Text_copyFrom_4
  have f0 : fr [16, 17, 18] I I := fr.refl
  refine kx_lti (fun J1 eJ1 => ?_)
  have f1 : fr [16, 17, 18] I J1 := eJ1 ▸ fr.wr (by decide) f0
  refine kx_bind (fun p2 hp2 => ?_)
  have f2 : fr [16, 17, 18] I p2 := fr.trans f1 (fr.sub (by decide) (w_L_Text_copyFrom_4_10 hp2))
  intro h; have h := Option.some.inj h; subst h
  exact f2
theorem w_L_Text_copyFrom_5_10 : ∀ {f : Nat} {x2 : Int32} {I : HI} {r : HI}, L_Text_copyFrom_5_10 f x2 I = some r → fr [22, 23] I r := by
  intro f
  induction f with
  | zero => intro x2 I r h; rw [L_Text_copyFrom_5_10] at h; cases h
  | succ f ih =>
    intro x2 I r
    rw [L_Text_copyFrom_5_10]
    have f0 : fr [22, 23] I I := fr.refl
    refine kx_if (fun _ => ?_) (fun _ => ?_)
    · intro h; have h := Option.some.inj h; subst h
      exact f0
    · refine kx_grd (fun b2 => ?_)
      refine kx_lti (fun J3 eJ3 => ?_)
      have f1 : fr [22, 23] I J3 := eJ3 ▸ fr.wr (by decide) f0
      refine kx_lti (fun J4 eJ4 => ?_)
      have f2 : fr [22, 23] I J4 := eJ4 ▸ fr.wr (by decide) f1
      exact fun h => fr.trans f2 (ih h)
theorem w_Text_copyFrom_5 {I : HI} {r : HI} : M_Text_copyFrom_5 I = some r → fr [21, 22, 23] I r := by
  unfold M_Text_copyFrom_5
  have f0 : fr [21, 22, 23] I I := fr.refl
  refine kx_lti (fun J1 eJ1 => ?_)
  have f1 : fr [21, 22, 23] I J1 := eJ1 ▸ fr.wr (by decide) f0
  refine kx_bind (fun p2 hp2 => ?_)
  have f2 : fr [21, 22, 23] I p2 := fr.trans f1 (fr.sub (by decide) (w_L_Text_copyFrom_5_10 hp2))
  intro h; have h := Option.some.inj h; subst h
  exact f2
theorem w_L_Wall_copyFrom_2_55 : ∀ {f : Nat} {x2 : Int32} {I : HI} {r : HI}, L_Wall_copyFrom_2_55 f x2 I = some r → fr [11, 12, 13] I r := by
  intro f
  induction f with
  | zero => intro x2 I r h; rw [L_Wall_copyFrom_2_55] at h; cases h
  | succ f ih =>
    intro x2 I r
    rw [L_Wall_copyFrom_2_55]
    have f0 : fr [11, 12, 13] I I := fr.refl
    refine kx_if (fun _ => ?_) (fun _ => ?_)
    · intro h; have h := Option.some.inj h; subst h
      exact f0
    · refine kx_grd (fun b2 => ?_)
      refine kx_lti (fun J3 eJ3 => ?_)
      have f1 : fr [11, 12, 13] I J3 := eJ3 ▸ fr.wr (by decide) f0
      refine kx_lti (fun J4 eJ4 => ?_)
      have f2 : fr [11, 12, 13] I J4 := eJ4 ▸ fr.wr (by decide) f1
      refine kx_lti (fun J5 eJ5 => ?_)
      have f3 : fr [11, 12, 13] I J5 := eJ5 ▸ fr.wr (by decide) f2
      exact fun h => fr.trans f3 (ih h)
theorem w_H_tell {I : HI} {x1 : Int32} {r : Int32 × HI} : M_H_tell I x1 = some r → fr [1, 31, 87] I r.2 := by
  unfold M_H_tell
  have f0 : fr [1, 31, 87] I I := fr.refl
  refine kx_if (fun _ => ?_) (fun _ => ?_)
  · refine kx_grd (fun b2 => ?_)
    refine kx_lti (fun J3 eJ3 => ?_)
    have f1 : fr [1, 31, 87] I J3 := eJ3 ▸ fr.wr (by decide) f0
    refine kx_lti (fun J4 eJ4 => ?_)
    have f2 : fr [1, 31, 87] I J4 := eJ4 ▸ fr.wr (by decide) f1
    intro h; have h := Option.some.inj h; subst h
    exact f2
  · refine kx_bind (fun p5 hp5 => ?_)
    have f3 : fr [1, 31, 87] I p5.2 := fr.trans f0 (fr.sub (by decide) (w_H_error hp5))
    intro h; have h := Option.some.inj h; subst h
    exact f3
theorem w_H_check {I : HI} {r : Int32 × HI} : M_H_check I = some r → fr [1] I r.2 := by
  unfold M_H_check
  have f0 : fr [1] I I := fr.refl
  refine kx_bind (fun p1 hp1 => ?_)
  refine kx_lti (fun J2 eJ2 => ?_)
  have f2 : fr [1] I J2 := eJ2 ▸ fr.wr (by decide) f0
  intro h; have h := Option.some.inj h; subst h
  exact f2
theorem w_H_count {I : HI} {x1 : Int32} {r : Int32 × HI} : M_H_count I x1 = some r → fr [87] I r.2 := by
  unfold M_H_count
  have f0 : fr [87] I I := fr.refl
  refine kx_if (fun _ => ?_) (fun _ => ?_)
  · intro h; have h := Option.some.inj h; subst h
    exact f0
  · refine kx_if (fun _ => ?_) (fun _ => ?_)
    · intro h; have h := Option.some.inj h; subst h
      exact f0
    · refine kx_if (fun _ => ?_) (fun _ => ?_)
      · intro h; have h := Option.some.inj h; subst h
        exact f0
      · refine kx_if (fun _ => ?_) (fun _ => ?_)
        · intro h; have h := Option.some.inj h; subst h
          exact f0
        · refine kx_if (fun _ => ?_) (fun _ => ?_)
          · intro h; have h := Option.some.inj h; subst h
            exact f0
          · refine kx_if (fun _ => ?_) (fun _ => ?_)
            · intro h; have h := Option.some.inj h; subst h
              exact f0
            · refine kx_bind (fun p7 hp7 => ?_)
              have f1 : fr [87] I p7.2 := fr.trans f0 (fr.sub (by decide) (w_H_error hp7))
              intro h; have h := Option.some.inj h; subst h
              exact f1
theorem w_H_told {I : HI} {x1 : Int32} {r : Int32 × HI} : M_H_told I x1 = some r → fr [87] I r.2 := by
  unfold M_H_told
  have f0 : fr [87] I I := fr.refl
  refine kx_if (fun _ => ?_) (fun _ => ?_)
  · refine kx_bind (fun p2 hp2 => ?_)
    have f1 : fr [87] I p2.2 := fr.trans f0 (fr.sub (by decide) (w_H_error hp2))
    intro h; have h := Option.some.inj h; subst h
    exact f1
  · refine kx_if (fun _ => ?_) (fun _ => ?_)
    · refine kx_grd (fun b4 => ?_)
      intro h; have h := Option.some.inj h; subst h
      exact f0
    · refine kx_bind (fun p5 hp5 => ?_)
      have f2 : fr [87] I p5.2 := fr.trans f0 (fr.sub (by decide) (w_H_error hp5))
      intro h; have h := Option.some.inj h; subst h
      exact f2
