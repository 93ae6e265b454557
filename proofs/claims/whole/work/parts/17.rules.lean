/-! further rules over known places -/
def ush (x y : Int32) : Int32 := (x.toUInt32 >>> (y.toUInt32 &&& Int32.toUInt32 31)).toInt32
def lush (x : Int64) (y : Int32) : Int64 := (x.toUInt64 >>> (y.toInt64.toUInt64 &&& Int64.toUInt64 63)).toInt64
def i2c (x : Int32) : Int32 := (x.toUInt32 % 65536).toInt32
def b01 (x : Int32) : Bool := decide (x = 0) || decide (x = 1)
theorem b01_or {x : Int32} (h : b01 x = true) : x = 0 ∨ x = 1 := by
  unfold b01 at h
  simpa using h
theorem kx_via {A Q1 Q2 : Prop} (h : Q1 → Q2) (kk : A → Q1) : A → Q2 := fun a => h (kk a)
theorem kx_via2 {α : Type} {t : Nat} {e0 e1 r : α} {Q0 Q1 Q : Prop} (h : (t = 0 → Q0) → (¬ t = 0 → Q1) → Q) (k0 : t = 0 → e0 = r → Q0) (k1 : ¬ t = 0 → e1 = r → Q1) : (if t = 0 then e0 else e1) = r → Q := by
  intro q
  by_cases ht : t = 0
  · rw [if_pos ht] at q; exact h (fun _ => k0 ht q) (fun h2 => absurd ht h2)
  · rw [if_neg ht] at q; exact h (fun h2 => absurd h2 ht) (fun _ => k1 ht q)
theorem kx_via3 {α : Type} {t : Nat} {e0 e1 e2 r : α} {Q0 Q1 Q2 Q : Prop} (h : (t = 0 → Q0) → (¬ t = 0 → t = 1 → Q1) → (¬ t = 0 → ¬ t = 1 → Q2) → Q) (k0 : t = 0 → e0 = r → Q0) (k1 : ¬ t = 0 → t = 1 → e1 = r → Q1) (k2 : ¬ t = 0 → ¬ t = 1 → e2 = r → Q2) : (if t = 0 then e0 else if t = 1 then e1 else e2) = r → Q := by
  intro q
  by_cases ht : t = 0
  · rw [if_pos ht] at q; exact h (fun _ => k0 ht q) (fun h2 => absurd ht h2) (fun h2 => absurd ht h2)
  · rw [if_neg ht] at q
    by_cases h1 : t = 1
    · rw [if_pos h1] at q; exact h (fun h2 => absurd h2 ht) (fun _ _ => k1 ht h1 q) (fun _ h2 => absurd h1 h2)
    · rw [if_neg h1] at q; exact h (fun h2 => absurd h2 ht) (fun _ h2 => absurd h2 h1) (fun _ _ => k2 ht h1 q)
section KX
variable {G : xG} {X : xC} {Y Y' : MI} {d d' mc ms mc' ms' : Nat} {C C' : HC} {I I' : HI} {cells slots pc nx r k q w : Nat} {lv st : List Value} {A : Prop} {idx a : Nat} {cs : List (Int32 × Nat)}
theorem kx_widen {cells' slots' : Nat} (h1 : cells ≤ cells') (h2 : slots ≤ slots') (kk : kW G X Y C I cells' slots' pc lv st) : kW G X Y C I cells slots pc lv st :=
  fun H locs ls hR hlo hlv => W.widen h1 h2 (kk H locs ls hR hlo hlv)
theorem kW.small (h : 107 + hm C < 1000000 → kW G X Y C I cells slots pc lv st) : kW G X Y C I cells slots pc lv st :=
  fun H locs ls hR hlo hlv => h hR.2.2.2.1 H locs ls hR hlo hlv
theorem kA_lit {r w : Nat} (h : (Nat.blt r 107 && decide (xtab r = (13, w))) = true) : kA C r w := by
  simp only [Bool.and_eq_true, Nat.blt_eq, decide_eq_true_eq] at h
  exact ⟨lit_lt h.1, (kK_lit h.1).trans h.2⟩
theorem xnth_ge {α : Type} {d : α} : ∀ {l : List α} {n : Nat}, l.length ≤ n → xnth d l n = d := by
  intro l
  induction l with
  | nil => intro n _; rfl
  | cons a l ih =>
    intro n h
    cases n with
    | zero => simp at h
    | succ n => exact ih (by simpa using h)
theorem xptab_big {r k : Nat} (h : 107 ≤ r) : xptab r k = none := by
  unfold xptab
  rw [xnth_ge (by rw [show xptL.length = 107 by decide]; exact h)]
  rfl
theorem kP_big {r k : Nat} (h : 107 ≤ r) : kP C r k = none := by
  unfold kP
  rw [if_neg (by omega), if_neg (by omega), if_neg (by omega), xptab_big h]
theorem kK_new (h : hm C < 800000) (c : Nat) : kK (cN C c) (107 + hm C) = (c, 7) := by
  unfold kK
  rw [if_neg (by omega), if_neg (by omega), if_neg (by omega)]
  show ((if 107 + hm C = 107 + hm C then c else hk C (107 + hm C)), 7) = (c, 7)
  rw [if_pos rfl]
theorem kK_cN {q c : Nat} (h : q ≠ 107 + hm C) : kK (cN C c) q = kK C q := by
  unfold kK
  have : hk (cN C c) q = hk C q := by
    show (if q = 107 + hm C then c else hk C q) = hk C q
    rw [if_neg h]
  rw [this]
  rfl
theorem gS_cN {q c : Nat} (h : gS C q = true) : gS (cN C c) q = true := by
  have h1 := gS_lt h
  have h2 := gS_k h
  unfold gS kc
  rw [kK_cN (by omega)]
  simp only [Bool.and_eq_true, Nat.blt_eq]
  exact ⟨by show q < 107 + (hm C + 1); omega, h2⟩
theorem kx_new {α : Type} {c : Nat} {e : Option α} {b : α} (hX : xAmb G X Y d mc ms) (hY : xpOK Y = true) (hs : xlook Y.2.2.2.2.1 pc = some (.new idx, nx, a, cs)) (hc : c < 7) (hw : Cond.classLink Y.1.cls idx (xcn c) ∈ xw ∧ Cond.instantiable (xcn c) (xN c) ∈ xw ∧ Cond.initialized (xcn c) ∈ xw) (hr : cells + 1 ≤ mc ∧ slots + 7 ≤ ms)
    (kk : gS (cN C c) (107 + hm C) = true → e = some b → kW G X Y (cN C c) (xrow I (107 + hm C) (fun _ => 0)) (cells + 1) (slots + 7) nx lv (.ref (107 + hm C) :: st)) : grd (Nat.blt (hm C) 800000) e = some b → kW G X Y C I cells slots pc lv st :=
  kx_grd fun hb h => by
    have hlt : hm C < 800000 := by simpa [Nat.blt_eq] using hb
    have hN : xN c = 7 := by rcases (show c = 0 ∨ c = 1 ∨ c = 2 ∨ c = 3 ∨ c = 4 ∨ c = 5 ∨ c = 6 by omega) with rfl | rfl | rfl | rfl | rfl | rfl | rfl <;> rfl
    have hg : gS (cN C c) (107 + hm C) = true := by
      unfold gS kc
      rw [kK_new hlt]
      simp only [Bool.and_eq_true, Nat.blt_eq]
      exact ⟨by show 107 + hm C < 107 + (hm C + 1); omega, hc⟩
    have k2 := kk hg h
    unfold kW at k2 ⊢
    refine ax_new (c := c) (w := 7) (K' := kK (cN C c)) hX hY hs (by omega) hw (kK_new hlt c) (fun q hq => kK_cN hq) (by omega) (by rw [hN]; exact hr) ?_
    rw [hN]
    have hP : xprow (kP C) (107 + hm C) (fun _ => none) = kP (cN C c) := by
      funext r k
      unfold xprow
      by_cases hr : r = 107 + hm C
      · rw [if_pos hr, kP_big (by omega)]
      · rw [if_neg hr]; rfl
    rw [hP]
    exact k2
theorem kx_obj (hX : xAmb G X Y d mc ms) (hY : xpOK Y = true) (hs : xlook Y.2.2.2.2.1 pc = some (.invokespecial idx, nx, a, cs)) (hl : Cond.methodLink Y.1.cls idx Lib.objectInit ∈ xw ∧ Cond.instanceMethod Lib.objectInit ∈ xw ∧ Cond.code Lib.objectInit ⟨#[0xb1]⟩ 1 none ∈ xw) (hd1 : 0 < d) (hr8 : (st.map fun v => v.category).sum ≤ 8)
    (kk : A → kW G X Y C I cells slots nx lv st) : A → kW G X Y C I cells slots pc lv (.ref r :: st) := fun a => ax_obj hX hY hs hl hd1 hr8 (kk a)
theorem ax_aastA {n : Nat} {K : Nat → Nat × Nat} {P : Nat → Nat → Option Nat} {c w q cq wq : Nat} {i : Int32} {E : String} (hX : xAmb G X Y d mc ms) (hY : xpOK Y = true) (hr : r < n) (hk : K r = (c, w)) (hq : q < n) (hkq : K q = (cq, wq)) (hcq : cq < 13)
    (hE : (c = 15 ∧ E = "HandOverHorse$Stroke") ∨ (c = 16 ∧ E = "HandOverHorse$Text")) (hca : ∀ comp, X.2.2.2.2.1.vm.findClass E = some comp → X.2.2.2.2.1.vm.assignable (G.1.1 cq) comp = true) (hs : xis Y pc xq_aast = some nx) (hi : vp_in i w) (kk : aW G X Y n K I (xup P r i.toNatClampNeg (some q)) cells slots nx lv st) : aW G X Y n K I P cells slots pc lv (.ref q :: .int i :: .ref r :: st) := by
  obtain ⟨hd, rfl⟩ := xis_dec (ins := .aastore) hY hs (fun i h => by cases i <;> first | rfl | cases h) (by decide)
  intro H locs ls hR hlo hlv
  have ha := hR.at hr
  rw [xE_ref hk (by omega)] at ha
  have ha2 : H[G.2.2.1 + r]? = some (arrV (G.2.1 c) w (fun j => va_rf ((P r j).map (xmu G)))) := ha
  have hv := hR.at hq
  rw [xE_obj hkq hcq] at hv
  have e1 : xv G (.ref r) = .ref (G.2.2.1 + r) := congrArg Value.ref (xmu_new (hR.lt hr))
  have e2 : xv G (.ref q) = .ref (G.2.2.1 + q) := congrArg Value.ref (xmu_new (hR.lt hq))
  show W _ _ _ _ _ _ _ _ _ _ H locs cells slots _ (F0 _ pc ls (xv G (.ref q) :: .int i :: xv G (.ref r) :: st.map (xv G)))
  rw [e1, e2]
  have hK := hX.2.2.2.2.2.1.1
  have hts := hX.2.2.2.2.1
  have hlt : i.toNatClampNeg < w := Nat.not_le.mp fun q => hi (Or.inr q)
  have h0 : ¬ i < 0 := fun q => hi (Or.inl q)
  obtain ⟨r', hr', cellV, g1, g2, g3, -⟩ := hv
  have hcls := (hK.1 cq _ (xCl_get hcq)).2
  have hty : ∃ t0 : Nat, (xTys G)[t0]? = some (G.2.1 c, FieldType.object E) := by
    rcases hE with ⟨rfl, rfl⟩ | ⟨rfl, rfl⟩
    · exact ⟨2, rfl⟩
    · exact ⟨3, rfl⟩
  obtain ⟨t0, ht0⟩ := hty
  obtain ⟨kA, comp, k1, k2, k3, -⟩ := (hK.2 t0 _ ht0).2
  obtain ⟨kE, hkE, -⟩ := Vm.findClass_spec k3
  obtain ⟨kC, hkC, hkd⟩ := hcls.2
  have hasg : X.2.2.2.2.1.vm.assignable cellV.cls comp = true := by rw [g2]; exact hca comp k3
  refine W.aast hX.1 hX.2.1 ha2 (fun q h => by cases h) (fun h => by cases h) k1 k2 rfl hkE ⟨h0, by rw [arrV_size]; exact hlt⟩ g1 (fun q h => by rw [g3] at h; cases h) (by rw [g2]; exact hkC) hasg rfl rfl hd fun H1 e z oq => ?_
  refine kk H1 _ ls (hR.set hr z oq ?_ (fun q hq => xE_ne rfl (xup_ne hq)) (fun _ _ => rfl)) (t_lc hlo (by show G.2.2.1 ≤ _; omega)) hlv
  rw [xE_ref hk (by omega), xup_self]
  show H1[G.2.2.1 + r]? = some (vp_cell _ _)
  rw [e, vp_cell_q, arrV_store]
  congr 2
  funext j
  by_cases hj : j = i.toNatClampNeg
  · subst hj
    simp [updV, va_up, va_rf, xmu_new (hR.lt hq)]
  · simp [updV, va_up, hj]
theorem xasg_sub {vm : Vm} {a b : ClassId} {ka kb : Class} (hka : vm.classes[a]? = some ka) (hkb : vm.classes[b]? = some kb) (hoa : ka.kind = .ordinary) (hob : kb.kind = .ordinary) (hni : kb.isInterface = false) (h : vm.isSubclass a b = true) : vm.assignable a b = true := by
  unfold Vm.assignable Vm.assignableAux
  by_cases hab : a = b
  · subst hab; simp [hka, hoa]
  · have hne : (a == b) = false := by simpa using hab
    simp [hka, hkb, hoa, hob, hni, h]
theorem xa_sub2 {vm : Vm} {a b c : ClassId} {k k' : Class} (hk : vm.classes[a]? = some k) (hs : k.super = some b) (hk' : vm.classes[b]? = some k') (hs' : k'.super = some c) : vm.isSubclass a c = true := by
  unfold Vm.isSubclass
  have hlt : a < vm.classes.size := (Array.getElem?_eq_some_iff.mp hk).1
  have hlt' : b < vm.classes.size := (Array.getElem?_eq_some_iff.mp hk').1
  by_cases hab : a = b
  · subst hab
    rw [hk] at hk'
    cases hk'
    rw [hs] at hs'
    cases hs'
    have := xa_sub hk hs
    unfold Vm.isSubclass at this
    exact this
  cases hz : vm.classes.size with
  | zero => rw [hz] at hlt; exact absurd hlt (Nat.not_lt_zero _)
  | succ n =>
    cases n with
    | zero => rw [hz] at hlt hlt'; exact absurd ((Nat.lt_one_iff.mp hlt).trans (Nat.lt_one_iff.mp hlt').symm) hab
    | succ n =>
      unfold Vm.isSubclassAux
      rw [hk]
      simp only [hs]
      unfold Vm.isSubclassAux
      rw [hk']
      simp only [hs']
      unfold Vm.isSubclassAux
      simp
theorem xsup (p : Nat) {a b : String} (h : (decide (lw_tbl[p]? = some (.superclass a b)) && goodWord (.superclass a b)) = true) : Cond.superclass a b ∈ xw := xw_at p h
theorem xcast (hX : xAmb G X Y d mc ms) {c : Nat} (h : c < 7) : ∀ comp, X.2.2.2.2.1.vm.findClass "HandOverHorse$Stroke" = some comp → X.2.2.2.2.1.vm.assignable (G.1.1 c) comp = true := by
  intro comp hcomp
  have hts := hX.2.2.2.2.1
  have hK := hX.2.2.2.2.2.1.1
  have h0 := (hK.1 0 _ (xCl_get (by decide))).2
  have hc0 : comp = G.1.1 0 := Option.some.inj (hcomp.symm.trans h0.1)
  subst hc0
  obtain ⟨-, k0, hk0, hd0⟩ := h0
  obtain ⟨_, k0', _, _, hk0', _, _, _, _, hni0⟩ := Cond.superclass_spec hcomp (hts _ (xsup 159 (a := "HandOverHorse$Stroke") (b := "java/lang/Object") (by decide +kernel)))
  cases hk0.symm.trans hk0'
  have one : ∀ (c : Nat) (hc : c < 13), Cond.superclass (xcn c) "HandOverHorse$Stroke" ∈ xw → X.2.2.2.2.1.vm.assignable (G.1.1 c) (G.1.1 0) = true := by
    intro c hc hw
    obtain ⟨hfc, kc, hkc, hdc⟩ := (hK.1 c _ (xCl_get hc)).2
    obtain ⟨p, k1, kp, f1, f2, f3, f4, f5, f6, f7⟩ := Cond.superclass_spec hfc (hts _ hw)
    cases hcomp.symm.trans f1
    exact xasg_sub f2 f3 f5 f6 (by cases hk0.symm.trans f3; exact hni0) (xa_sub f2 f4)
  have two : ∀ (c c' : Nat) (hc : c < 13) (hc' : c' < 13), Cond.superclass (xcn c) (xcn c') ∈ xw → Cond.superclass (xcn c') "HandOverHorse$Stroke" ∈ xw → X.2.2.2.2.1.vm.assignable (G.1.1 c) (G.1.1 0) = true := by
    intro c c' hc hc' hw hw'
    obtain ⟨hfc, kc, hkc, hdc⟩ := (hK.1 c _ (xCl_get hc)).2
    obtain ⟨p, k1, kp, f1, f2, f3, f4, f5, f6, f7⟩ := Cond.superclass_spec hfc (hts _ hw)
    obtain ⟨p', k1', kp', g1, g2, g3, g4, g5, g6, g7⟩ := Cond.superclass_spec f1 (hts _ hw')
    cases hcomp.symm.trans g1
    exact xasg_sub f2 g3 f5 g6 (by cases hk0.symm.trans g3; exact hni0) (xa_sub2 f2 f4 g2 g4)
  rcases (show c = 0 ∨ c = 1 ∨ c = 2 ∨ c = 3 ∨ c = 4 ∨ c = 5 ∨ c = 6 by omega) with rfl | rfl | rfl | rfl | rfl | rfl | rfl
  · exact va_assign (hK.1 0 _ (xCl_get (by decide))).2
  · exact one 1 (by decide) (xsup 387 (by decide +kernel))
  · exact one 2 (by decide) (xsup 401 (by decide +kernel))
  · exact one 3 (by decide) (xsup 415 (by decide +kernel))
  · exact two 4 1 (by decide) (by decide) (xsup 429 (by decide +kernel)) (xsup 387 (by decide +kernel))
  · exact two 5 2 (by decide) (by decide) (xsup 443 (by decide +kernel)) (xsup 401 (by decide +kernel))
  · exact two 6 3 (by decide) (by decide) (xsup 457 (by decide +kernel)) (xsup 415 (by decide +kernel))
theorem kx_asT {α : Type} {i : Int32} {e : Option α} {b : α} (hq : gS C q = true) (hX : xAmb G X Y d mc ms) (hY : xpOK Y = true) (hs : xis Y pc xq_aast = some nx) (kk : e = some b → kW G X Y (cT C i.toNatClampNeg q) I cells slots nx lv st) : grd (bnd i 8) e = some b → kW G X Y C I cells slots pc lv (.ref q :: .int i :: .ref 2 :: st) :=
  kx_grd fun hb h => by
    have k2 := kk h
    unfold kW at k2 ⊢
    refine ax_aastA (c := 15) (w := 8) (r := 2) hX hY (lit_lt (by decide)) (kK_lit (by decide)) (gS_lt hq) (kK_pair C q) (Nat.lt_trans (gS_k hq) (by decide)) (Or.inl ⟨rfl, rfl⟩) (xcast hX (gS_k hq)) hs (bnd_in hb) ?_
    have hP : xup (kP C) 2 i.toNatClampNeg (some q) = kP (cT C i.toNatClampNeg q) := by
      funext r k
      unfold xup
      by_cases hr : r = 2
      · subst hr
        show va_up (kP C 2) _ _ k = some (if k = i.toNatClampNeg then q else hT C k)
        unfold va_up
        by_cases hk : k = i.toNatClampNeg
        · rw [if_pos hk, if_pos hk]
        · rw [if_neg hk, if_neg hk]; rfl
      · rw [if_neg hr]
        unfold kP
        rw [if_neg hr, if_neg hr]; rfl
    rw [hP]
    exact k2
theorem kx_asU {α : Type} {i : Int32} {e : Option α} {b : α} (hq : gS C q = true) (hX : xAmb G X Y d mc ms) (hY : xpOK Y = true) (hs : xis Y pc xq_aast = some nx) (kk : e = some b → kW G X Y (cU C i.toNatClampNeg q) I cells slots nx lv st) : grd (bnd i 8) e = some b → kW G X Y C I cells slots pc lv (.ref q :: .int i :: .ref 33 :: st) :=
  kx_grd fun hb h => by
    have k2 := kk h
    unfold kW at k2 ⊢
    refine ax_aastA (c := 15) (w := 8) (r := 33) hX hY (lit_lt (by decide)) (kK_lit (by decide)) (gS_lt hq) (kK_pair C q) (Nat.lt_trans (gS_k hq) (by decide)) (Or.inl ⟨rfl, rfl⟩) (xcast hX (gS_k hq)) hs (bnd_in hb) ?_
    have hP : xup (kP C) 33 i.toNatClampNeg (some q) = kP (cU C i.toNatClampNeg q) := by
      funext r k
      unfold xup
      by_cases hr : r = 33
      · subst hr
        show va_up (kP C 33) _ _ k = some (if k = i.toNatClampNeg then q else hU C k)
        unfold va_up
        by_cases hk : k = i.toNatClampNeg
        · rw [if_pos hk, if_pos hk]
        · rw [if_neg hk, if_neg hk]; rfl
      · rw [if_neg hr]
        unfold kP
        by_cases h2 : r = 2
        · rw [if_pos h2, if_pos h2]; rfl
        · rw [if_neg h2, if_neg h2, if_neg hr, if_neg hr]; rfl
    rw [hP]
    exact k2
theorem kx_putdt (hX : xAmb G X Y d mc ms) (hY : xpOK Y = true) (hC : Y.1.cls = xcn Y.2.2.2.2.2) (hs : xpf Y pc 7 = some (4, nx)) (kk : A → kW G X Y (cD C q (hdn C)) I cells slots nx lv st) : A → kW G X Y C I cells slots pc lv (.ref q :: .ref 26 :: st) := by
  intro a
  have k2 := kk a
  unfold kW at k2 ⊢
  refine ax_putp (r := 26) hX hY hC (lit_lt (by decide)) (kK_lit (by decide)) hs (Or.inl rfl) rfl ?_
  have hP : xup (kP C) 26 4 (some q) = kP (cD C q (hdn C)) := by
    funext r k
    unfold xup
    by_cases hr : r = 26
    · subst hr
      show va_up (kP C 26) 4 (some q) k = (if k = 4 then some q else if k = 7 then some (hdn C) else xptab 26 k)
      unfold va_up
      by_cases hk : k = 4
      · rw [if_pos hk, if_pos hk]
      · rw [if_neg hk, if_neg hk]
        show (if k = 4 then some (hdt C) else if k = 7 then some (hdn C) else xptab 26 k) = _
        rw [if_neg hk]
    · rw [if_neg hr]
      unfold kP
      by_cases h2 : r = 2
      · rw [if_pos h2, if_pos h2]; rfl
      · rw [if_neg h2, if_neg h2]
        by_cases h3 : r = 33
        · rw [if_pos h3, if_pos h3]; rfl
        · rw [if_neg h3, if_neg h3, if_neg hr, if_neg hr]
  rw [hP]
  exact k2
theorem kx_putdn (hX : xAmb G X Y d mc ms) (hY : xpOK Y = true) (hC : Y.1.cls = xcn Y.2.2.2.2.2) (hs : xpf Y pc 7 = some (7, nx)) (kk : A → kW G X Y (cD C (hdt C) q) I cells slots nx lv st) : A → kW G X Y C I cells slots pc lv (.ref q :: .ref 26 :: st) := by
  intro a
  have k2 := kk a
  unfold kW at k2 ⊢
  refine ax_putp (r := 26) hX hY hC (lit_lt (by decide)) (kK_lit (by decide)) hs (Or.inl rfl) rfl ?_
  have hP : xup (kP C) 26 7 (some q) = kP (cD C (hdt C) q) := by
    funext r k
    unfold xup
    by_cases hr : r = 26
    · subst hr
      show va_up (kP C 26) 7 (some q) k = (if k = 4 then some (hdt C) else if k = 7 then some q else xptab 26 k)
      unfold va_up
      by_cases hk : k = 7
      · rw [if_pos hk, if_neg (by omega), if_pos hk]
      · rw [if_neg hk, if_neg hk]
        show (if k = 4 then some (hdt C) else if k = 7 then some (hdn C) else xptab 26 k) = _
        rw [if_neg hk]
    · rw [if_neg hr]
      unfold kP
      by_cases h2 : r = 2
      · rw [if_pos h2, if_pos h2]; rfl
      · rw [if_neg h2, if_neg h2]
        by_cases h3 : r = 33
        · rw [if_pos h3, if_pos h3]; rfl
        · rw [if_neg h3, if_neg h3, if_neg hr, if_neg hr]
  rw [hP]
  exact k2
/-- a string constant -/
theorem ax_str {own tx : String} {j : Nat} {n : Nat} {K : Nat → Nat × Nat} {P : Nat → Nat → Option Nat} (hX : xAmb G X Y d mc ms) (hY : xpOK Y = true) (hC : Y.1.cls = own) (hs : xlook Y.2.2.2.2.1 pc = some (.ldc idx, nx, a, cs)) (hZ : vk_R own idx tx (G.2.2.2.1 j) X.2.2.2.2.1) (kk : aW G X Y n K I P cells slots nx lv (.ref (1000000 + j) :: st)) : aW G X Y n K I P cells slots pc lv st := by
  obtain ⟨hd, -, hlen, -⟩ := xdec hY hs
  obtain rfl : nx = pc + 2 := by simpa [xlen] using hlen
  rw [Nat.add_sub_cancel_left] at hd
  intro H locs ls hR hlo hlv
  have hown := hX.2.2.2.1
  rw [hC] at hown
  refine va_ldcS hX.1 hX.2.1 hown hZ hd ?_
  have e1 : xv G (.ref (1000000 + j)) = .ref (G.2.2.2.1 j) := by
    show Value.ref (xmu G (1000000 + j)) = _
    unfold xmu
    rw [if_neg (by omega), Nat.add_sub_cancel_left]
  have k2 := kk H locs ls hR hlo hlv
  rw [List.map_cons, e1] at k2
  exact k2
theorem kx_str2 (hX : xAmb G X Y d mc ms) (hY : xpOK Y = true) (hC : Y.1.cls = "HandOverHorse$Text") (hs : xlook Y.2.2.2.2.1 pc = some (.ldc 24, nx, a, cs)) (kk : A → kW G X Y C I cells slots nx lv (.ref 1000002 :: st)) : A → kW G X Y C I cells slots pc lv st := fun z => ax_str (j := 2) hX hY hC hs hX.2.2.2.2.2.1.2.1.2.2.1 (kk z)
theorem kx_str3 (hX : xAmb G X Y d mc ms) (hY : xpOK Y = true) (hC : Y.1.cls = "HandOverHorse$Wall") (hs : xlook Y.2.2.2.2.1 pc = some (.ldc 169, nx, a, cs)) (kk : A → kW G X Y C I cells slots nx lv (.ref 1000003 :: st)) : A → kW G X Y C I cells slots pc lv st := fun z => ax_str (j := 3) hX hY hC hs hX.2.2.2.2.2.1.2.1.2.2.2.1 (kk z)
theorem kx_str4 (hX : xAmb G X Y d mc ms) (hY : xpOK Y = true) (hC : Y.1.cls = "HandOverHorse$Wall") (hs : xlook Y.2.2.2.2.1 pc = some (.ldc 171, nx, a, cs)) (kk : A → kW G X Y C I cells slots nx lv (.ref 1000004 :: st)) : A → kW G X Y C I cells slots pc lv st := fun z => ax_str (j := 4) hX hY hC hs hX.2.2.2.2.2.1.2.1.2.2.2.2.1 (kk z)
theorem xl_mop : Cond.fieldLink "HandOverHorse" 97 "HandOverHorse" "MOST_OF_PART" "[I" ∈ xw := xw_at 614 (by decide +kernel)
theorem kx_gst (hX : xAmb G X Y d mc ms) (hY : xpOK Y = true) (hC : Y.1.cls = "HandOverHorse") (hs : xlook Y.2.2.2.2.1 pc = some (.getstatic 97, nx, a, cs)) (kk : A → kW G X Y C I cells slots nx lv (.ref 1000001 :: st)) : A → kW G X Y C I cells slots pc lv st := by
  intro z
  obtain ⟨hd, -, hlen, -⟩ := xdec hY hs
  obtain rfl : nx = pc + 3 := by simpa [xlen] using hlen
  rw [Nat.add_sub_cancel_left] at hd
  intro H locs ls hR hlo hlv
  have hown := hX.2.2.2.1
  rw [hC] at hown
  obtain ⟨cf, kf, fi, f, a', cell, h1, h2, h3, h4, h5, h6, h7, h8⟩ := hX.2.2.2.2.2.1.2.1.1
  have hlt : a' < G.2.2.1 := Nat.not_le.mp h8
  have e1 : xv G (.ref 1000001) = .ref (G.2.2.2.1 1) := by
    show Value.ref (xmu G 1000001) = _
    unfold xmu
    rw [if_neg (by omega)]
  have k2 := kk z H locs ls hR hlo hlv
  rw [List.map_cons, e1] at k2
  exact W.gets hX.1 hX.2.1 hown (hX.2.2.2.2.1 _ xl_mop) h1 h2 h3 h4 (by rw [hR.2.2.1 a' hlt]; exact h5) (fun e => by rw [e] at h6; cases h6) h7 rfl hd k2
/-- System.arraycopy of ints -/
def bcp (sp dp n : Int32) (w0 w1 : Nat) : Bool := decide (0 ≤ sp) && (decide (0 ≤ dp) && (decide (0 ≤ n) && (Nat.ble (sp.toNatClampNeg + n.toNatClampNeg) w0 && Nat.ble (dp.toNatClampNeg + n.toNatClampNeg) w1)))
def xLc (own : String) (idx : Nat) : Prop := Cond.methodLink own idx arraycopyName ∈ xw ∧ Cond.native arraycopyName ∈ xw ∧ Cond.static arraycopyName ∈ xw ∧ Cond.initialized "java/lang/System" ∈ xw
theorem kx_copy {α : Type} {q0 q1 w0 w1 : Nat} {sp dp n : Int32} {e : Option α} {b : α} (hk0 : kA C q0 w0) (hk1 : kA C q1 w1) (hd1 : 0 < d) (hX : xAmb G X Y d mc ms) (hY : xpOK Y = true) (hl : xLc Y.1.cls idx) (hs : xlook Y.2.2.2.2.1 pc = some (.invokestatic idx, nx, a, cs)) (hr8 : (st.map fun v => v.category).sum ≤ 8)
    (kk : e = some b → kW G X Y C (xrow I q1 (va_cpy (I q0) (I q1) sp.toNatClampNeg dp.toNatClampNeg n.toNatClampNeg)) cells slots nx lv st) : grd (bcp sp dp n w0 w1) e = some b → kW G X Y C I cells slots pc lv (.int n :: .int dp :: .ref q1 :: .int sp :: .ref q0 :: st) :=
  kx_grd fun hb h => by
    simp only [bcp, Bool.and_eq_true, decide_eq_true_eq, Nat.ble_eq] at hb
    obtain ⟨g1, g2, g3, h4, h5⟩ := hb
    have h1 := Int32.not_lt.mpr g1
    have h2 := Int32.not_lt.mpr g2
    have h3 := Int32.not_lt.mpr g3
    have k2 := kk h
    obtain ⟨hd, -, hlen, -⟩ := xdec hY hs
    obtain rfl : nx = pc + 3 := by simpa [xlen] using hlen
    rw [Nat.add_sub_cancel_left] at hd
    intro H locs ls hR hlo hlv
    have nn : ∀ z : Int32, ¬ z < 0 → z.toInt = (z.toNatClampNeg : Int) := by
      intro z hz
      have hz0 : (0 : Int) ≤ z.toInt := by
        have := Int32.not_lt.mp hz
        simpa using Int32.le_iff_toInt_le.mp this
      show z.toInt = ((z.toInt.toNat : Nat) : Int)
      omega
    have ha0 := hR.at hk0.1
    rw [xE_int hk0.2 (by decide) (by decide)] at ha0
    have ha1 := hR.at hk1.1
    rw [xE_int hk1.2 (by decide) (by decide)] at ha1
    have hc0 : H[G.2.2.1 + q0]? = some (vp_cell (G.2.1 13) (w0, .inl (I q0))) := ha0
    have hc1 : H[G.2.2.1 + q1]? = some (vp_cell (G.2.1 13) (w1, .inl (I q1))) := ha1
    have e0 : xv G (.ref q0) = .ref (G.2.2.1 + q0) := congrArg Value.ref (xmu_new (hR.lt hk0.1))
    have e1 : xv G (.ref q1) = .ref (G.2.2.1 + q1) := congrArg Value.ref (xmu_new (hR.lt hk1.1))
    obtain ⟨p, l, en, R, s, m, args, below, meth, cde, Q⟩ := X
    have hts := hX.2.2.2.2.1
    have hf := hX.2.2.2.2.2.2.1
    have hlc := hX.2.2.2.2.2.2.2.1
    dsimp only at hts hX hf hlc ⊢
    show W p l en R s m args below meth cde H locs cells slots Q (F0 m pc ls (.int n :: .int dp :: xv G (.ref q1) :: .int sp :: xv G (.ref q0) :: st.map (xv G)))
    rw [e0, e1]
    obtain ⟨-, k0, hkk0, cm0, hkd0⟩ := (hX.2.2.2.2.2.1.1.2 0 _ rfl).1 w0 (fun j => .int (I q0 j))
    obtain ⟨-, k1, hkk1, cm1, hkd1⟩ := (hX.2.2.2.2.2.1.1.2 0 _ rfl).1 w1 (fun j => .int (I q1 j))
    intro T hT XX
    obtain ⟨vm', X', step⟩ := XX.arraycopy hX.1 hX.2.2.2.1 (hts _ hl.1) (hts _ hl.2.1) (hts _ hl.2.2.1) (hts _ hl.2.2.2) (src := G.2.2.1 + q0) (dst := G.2.2.1 + q1) (cs := vp_cell (G.2.1 13) (w0, .inl (I q0))) (cd := vp_cell (G.2.1 13) (w1, .inl (I q1))) (srcPos := sp) (destPos := dp) (n := n) (by rw [hT]; exact hc0) (by rw [hT]; exact hc1)
      (fun _ h => by cases h) (fun _ h => by cases h) (fun h => by cases h) (fun h => by cases h) hkk0 hkk1 hkd0 hkd1 (by simp [refKind]) h1 h2 h3
      (by rw [nn sp h1, nn n h3]; show ¬ _ > ((arrV (G.2.1 13) w0 (fun j => .int (I q0 j))).slots.size : Int); rw [arrV_size]; omega)
      (by rw [nn dp h2, nn n h3]; show ¬ _ > ((arrV (G.2.1 13) w1 (fun j => .int (I q1 j))).slots.size : Int); rw [arrV_size]; omega)
      (fun vm₁ _ i hi => by
        have e : (vp_cell (G.2.1 13) (w0, .inl (I q0))).slots.getD (sp.toNatClampNeg + i) .null = .int (I q0 (sp.toNatClampNeg + i)) := by
          show (arrV (G.2.1 13) w0 (fun j => .int (I q0 j))).slots.getD _ _ = _
          rw [Array.getD_eq_getD_getElem?, arrV_read _ _ (by omega)]
          rfl
        refine ⟨?_, ?_⟩
        · rw [e]; rfl
        · rw [e]; exact trivial)
      (g := F0 m pc ls (.int n :: .int dp :: .ref (G.2.2.1 + q1) :: .int sp :: .ref (G.2.2.1 + q0) :: st.map (xv G))) rfl (hlv.1.trans hX.2.2.1.symm) (rest := st.map (xv G)) rfl (by rw [hX.2.1]; exact hd) (by omega) (by
        show 2 * 0 + ((st.map (xv G)).map fun v => v.category).sum + (nativeFrameWords "java/lang/System" "arraycopy" 5 + 11) ≤ _
        rw [xcats]
        have : nativeFrameWords "java/lang/System" "arraycopy" 5 ≤ 40 := by decide
        omega)
    have e2 : copied (vp_cell (G.2.1 13) (w0, .inl (I q0))) (vp_cell (G.2.1 13) (w1, .inl (I q1))) sp dp n = vp_cell (G.2.1 13) (w1, .inl (va_cpy (I q0) (I q1) sp.toNatClampNeg dp.toNatClampNeg n.toNatClampNeg)) := va_copied (fun z => .int z) _ _ (I q0) (I q1) h4
    rw [e2] at X' step
    have hlt : G.2.2.1 + q1 < H.size := (Array.getElem?_eq_some_iff.mp hc1).1
    generalize hcell : vp_cell (G.2.1 13) (w1, .inl (va_cpy (I q0) (I q1) sp.toNatClampNeg dp.toNatClampNeg n.toNatClampNeg)) = cell at X' step
    have hheap : ((T.setVm vm').setCell (G.2.2.1 + q1) cell).heap = H.setIfInBounds (G.2.2.1 + q1) cell := by rw [← hT]; rfl
    have oq : ∀ q : Nat, q ≠ G.2.2.1 + q1 → (H.setIfInBounds (G.2.2.1 + q1) cell)[q]? = H[q]? := fun q hq => by simp [Array.getElem?_setIfInBounds, Ne.symm hq]
    have hR' : xR G (107 + hm C) (kK C) (xrow I q1 (va_cpy (I q0) (I q1) sp.toNatClampNeg dp.toNatClampNeg n.toNatClampNeg)) (kP C) (H.setIfInBounds (G.2.2.1 + q1) cell) := by
      refine hR.set hk1.1 (by simp) oq ?_ (fun q hq => xE_ne (xrow_ne hq) rfl) (fun j hj => xrow_ne (by have := hR.lt hk1.1; omega))
      rw [xE_int hk1.2 (by decide) (by decide), xrow_self]
      show (H.setIfInBounds (G.2.2.1 + q1) cell)[G.2.2.1 + q1]? = some (vp_cell _ _)
      rw [hcell]
      simp [Array.getElem?_setIfInBounds, hlt]
    obtain ⟨t, a1, b1⟩ := k2 _ _ ls hR' (fun q hq => by
      rcases List.mem_append.mp hq with h | h
      · exact hlo q h
      · obtain ⟨z, -, hz⟩ := List.mem_map.mp h
        rw [← hz]
        show G.2.2.1 ≤ _
        exact Nat.le_add_right _ _) hlv _ hheap X'
    exact ⟨t, step t a1, b1⟩
end KX
