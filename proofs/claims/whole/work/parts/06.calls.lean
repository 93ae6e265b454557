/-! fields, new cells, returns, contracts, calls -/
section AF
variable {G : xG} {X : xC} {Y : MI} {d mc ms n : Nat} {K : Nat → Nat × Nat} {I : Nat → Nat → Int32} {P : Nat → Nat → Option Nat} {cells slots pc nx r : Nat} {lv st : List Value}
def xgf (Y : MI) (pc c : Nat) : Option (Nat × Nat) := match xlook Y.2.2.2.2.1 pc with
  | some (.getfield idx, nx, _, _) => match xfk Y.2.2.2.2.2 idx c with
    | some k => some (k, nx)
    | none => none
  | _ => none
def xpf (Y : MI) (pc c : Nat) : Option (Nat × Nat) := match xlook Y.2.2.2.2.1 pc with
  | some (.putfield idx, nx, _, _) => match xfk Y.2.2.2.2.2 idx c with
    | some k => some (k, nx)
    | none => none
  | _ => none
theorem xgf_some {c k : Nat} (h : xgf Y pc c = some (k, nx)) : ∃ idx a cs, xlook Y.2.2.2.2.1 pc = some (.getfield idx, nx, a, cs) ∧ xfk Y.2.2.2.2.2 idx c = some k := by
  unfold xgf at h
  split at h
  · next idx nx' a cs he =>
    split at h
    · next k' hk => cases h; exact ⟨idx, a, cs, he, hk⟩
    · cases h
  · cases h
theorem xpf_some {c k : Nat} (h : xpf Y pc c = some (k, nx)) : ∃ idx a cs, xlook Y.2.2.2.2.1 pc = some (.putfield idx, nx, a, cs) ∧ xfk Y.2.2.2.2.2 idx c = some k := by
  unfold xpf at h
  split at h
  · next idx nx' a cs he =>
    split at h
    · next k' hk => cases h; exact ⟨idx, a, cs, he, hk⟩
    · cases h
  · cases h
theorem ax_get {c w k : Nat} {v : Value} (hX : xAmb G X Y d mc ms) (hY : xpOK Y = true) (hC : Y.1.cls = xcn Y.2.2.2.2.2) (hr : r < n) (hk : K r = (c, w)) (hs : xgf Y pc c = some (k, nx)) (hv : xfv G I P c r k = xv G v) (kk : aW G X Y n K I P cells slots nx lv (v :: st)) : aW G X Y n K I P cells slots pc lv (.ref r :: st) := by
  obtain ⟨idx, a, cs, h1, h2⟩ := xgf_some hs
  obtain ⟨hd, -, hlen, -⟩ := xdec hY h1
  obtain ⟨hc, hkN, ref, hlink, hsame⟩ := xfk_ok h2
  obtain rfl : nx = pc + 3 := by simpa [xlen] using hlen
  rw [Nat.add_sub_cancel_left] at hd
  intro H locs ls hR hlo hlv
  have ha := hR.at hr
  rw [xE_obj hk hc] at ha
  have e1 : xv G (.ref r) = .ref (G.2.2.1 + r) := congrArg Value.ref (xmu_new (hR.lt hr))
  show W _ _ _ _ _ _ _ _ _ _ H locs cells slots _ (F0 _ pc ls (xv G (.ref r) :: st.map (xv G)))
  rw [e1]
  have hown := hX.2.2.2.1
  rw [hC] at hown
  refine va_get (own := xcn Y.2.2.2.2.2) (ref := ref) (C := xcn c) (T := xTc c) (N := xN c) (ci := c) (Ts := xw) (index := idx) hX.1 hX.2.1 hX.2.2.2.2.1 (xi_all hc) hown hX.2.2.2.2.2.1.1 (va_P_one ha) 0 rfl (xCl_get hc) k hkN (hX.2.2.2.2.1 _ hlink) ?_ (v := xv G v) ?_ hd (kk H locs ls hR hlo hlv)
  · intro x hx
    rcases hsame with h | h
    · rw [h]; exact hx
    · exact u_same (hX.2.2.2.2.1 _ h) x hx
  · rw [← hv]; simp [hkN]
theorem xfv_int {c k : Nat} (h : xty c k = .int ∨ xty c k = .boolean) : xfv G I P c r k = .int (I r k) := by
  unfold xfv; rcases h with h | h <;> rw [h]
theorem xfv_ref {c k q : Nat} (h : (xty c k).isReference = true) (hp : P r k = some q) : xfv G I P c r k = xv G (.ref q) := by
  unfold xfv
  cases hx : xty c k <;> rw [hx] at h <;> first | (cases h; done) | (rw [hp]; rfl)
/-- a field is written: the machine's side -/
theorem xa_put {c w k : Nat} {v : Value} {I' : Nat → Nat → Int32} {P' : Nat → Nat → Option Nat} (hX : xAmb G X Y d mc ms) (hY : xpOK Y = true) (hC : Y.1.cls = xcn Y.2.2.2.2.2) (hr : r < n) (hk : K r = (c, w)) (hs : xpf Y pc c = some (k, nx))
    (hfin : (xTc c k).2.2.2 = false ∨ ((xTc c k).2.2.2 = true ∧ Y.1.name = "<init>" ∧ (xTc c k).1 = Y.1.cls)) (hn : narrow (xty c k) (xv G v) = xv G v) (hfit : fits (xty c k) (xv G v) = true)
    (hv : ∀ j, j < xN c → xfv G I' P' c r j = if j = k then xv G v else xfv G I P c r j) (hE : ∀ q, q ≠ r → xE G K I' P' q = xE G K I P q) (hI : r < 1000000 → ∀ j, 1000000 ≤ j → I' j = I j)
    (kk : aW G X Y n K I' P' cells slots nx lv st) : aW G X Y n K I P cells slots pc lv (v :: .ref r :: st) := by
  obtain ⟨idx, a, cs, h1, h2⟩ := xpf_some hs
  obtain ⟨hd, -, hlen, -⟩ := xdec hY h1
  obtain ⟨hc, hkN, ref, hlink, hsame⟩ := xfk_ok h2
  obtain rfl : nx = pc + 3 := by simpa [xlen] using hlen
  rw [Nat.add_sub_cancel_left] at hd
  intro H locs ls hR hlo hlv
  have ha := hR.at hr
  rw [xE_obj hk hc] at ha
  have e1 : xv G (.ref r) = .ref (G.2.2.1 + r) := congrArg Value.ref (xmu_new (hR.lt hr))
  show W _ _ _ _ _ _ _ _ _ _ H locs cells slots _ (F0 _ pc ls (xv G v :: xv G (.ref r) :: st.map (xv G)))
  rw [e1]
  have hown := hX.2.2.2.1
  have hts := hX.2.2.2.2.1
  have hK := hX.2.2.2.2.2.1.1
  have hlink' := hts _ hlink
  rw [← hC] at hlink'
  have hap := va_apart (own := Y.1.cls) hts (xi_all hc) (xty c) (xtk_all hc) (xn_all hc) hK (xCl_get hc)
  have hsm : ∀ x, X.2.2.2.2.1.fieldFound? (xTc c k).1 (xTc c k).2.1 (xTc c k).2.2.1 = some x → X.2.2.2.2.1.fieldFound? ref (xTc c k).2.1 (xTc c k).2.2.1 = some x := by
    intro x hx
    rcases hsame with h | h
    · rw [h]; exact hx
    · exact u_same (hts _ h) x hx
  obtain ⟨rr, g1, cell, q1, q2, q3, q4⟩ := ha
  have hrr : rr = (xcn c, xTc c, xN c) := Option.some.inj (g1.symm.trans (xCl_get hc))
  subst hrr
  obtain ⟨hS, hfc, kC, hkC, hkind⟩ := hK.1 c _ (xCl_get hc)
  obtain ⟨cf, kf, fi, f, hi, hsl⟩ := hS k hkN
  have hst := (u_facts hfc hkC (u_lays hts (xi_all hc) hkN) hi).1
  have hlen2 : k < ((List.range (xN c)).map (xfv G I P c r)).length := by simpa using hkN
  have fin : ∀ H1 : Heap, H1[G.2.2.1 + r]? = some (cell.setSlot f.slot (xv G v)) → H1.size = H.size → (∀ q, q ≠ G.2.2.1 + r → H1[q]? = H[q]?) → xR G n K I' P' H1 := by
    intro H1 f1 f2 f3
    rw [hsl] at f1
    refine hR.set hr f2 f3 ?_ hE (hI (hR.lt hr))
    rw [xE_obj hk hc]
    refine ⟨_, xCl_get hc, t_OB.to (V := updV (vp_V ((List.range (xN c)).map (xfv G I P c r))) k (xv G v)) ⟨_, f1, q2, q3, t_set q4 hap hkN _⟩ (fun j hj => ?_)⟩
    rw [vp_updV_set hlen2]
    unfold vp_V
    have hjN : j < xN c := hj
    rw [List.getD_eq_getElem?_getD, List.getD_eq_getElem?_getD, List.getElem?_set]
    simp only [List.getElem?_map, List.getElem?_range hjN, List.length_map, List.length_range, Option.map_some, Option.getD_some]
    rw [hv j hjN]
    by_cases hjk : j = k
    · subst hjk; simp [hkN]
    · simp [hjk, Ne.symm hjk]
  rcases hfin with hf0 | ⟨hf1, hini, hdecl⟩
  · have hlay := hts _ (xi_all hc _ (u_in_lay hkN))
    unfold u_lay at hlay
    rw [if_neg (by rw [hf0]; decide)] at hlay
    have h6 := u_store hfc hkC hkind hlay hi (xtk_all hc k hkN) hn hfit
    exact W.putK hX.1 hX.2.1 (f := f) ⟨hown, hlink', ⟨_, _, _, hsm _ hi⟩, hst⟩ (by rw [q2]; exact h6) q1 q3 (by rw [hsl]; exact k2_hasslot (q4 k hkN)) rfl rfl hd fun H1 f1 f2 f3 => kk H1 _ ls (fin H1 f1 f2 f3) (t_lc hlo (by show G.2.2.1 ≤ _; omega)) hlv
  · have hlay := hts _ (xi_all hc _ (u_in_lay hkN))
    unfold u_lay at hlay
    rw [if_pos hf1] at hlay
    have hcf : X.2.2.2.2.2.1.cls = cf := by
      obtain ⟨_, _, c', _, _, _, -, -, hf', -, -, -, hown2, -⟩ := Cond.laysFinal_spec hlay
      have e1 : c' = cf := by have := hi.symm.trans hf'; simp at this; exact this.1.symm
      rw [hdecl] at hown2
      rw [← e1]; exact Option.some.inj (hown.symm.trans hown2)
    have h6 := u_fits hfc hkC hkind (Or.inr hlay) hi (xtk_all hc k hkN) hn hfit
    exact W.putFinK hX.1 hX.2.1 hown hlink' (hsm _ hi) hst hcf (hX.2.2.2.2.2.2.2.2.2.2.trans hini) (by rw [q2]; exact h6) q1 q3 (by rw [hsl]; exact k2_hasslot (q4 k hkN)) rfl rfl hd fun H1 f1 f2 f3 => kk H1 _ ls (fin H1 f1 f2 f3) (t_lc hlo (by show G.2.2.1 ≤ _; omega)) hlv
theorem ax_puti {c w k : Nat} {x : Int32} (hX : xAmb G X Y d mc ms) (hY : xpOK Y = true) (hC : Y.1.cls = xcn Y.2.2.2.2.2) (hr : r < n) (hk : K r = (c, w)) (hs : xpf Y pc c = some (k, nx))
    (hfin : (xTc c k).2.2.2 = false) (ht : xty c k = .int ∨ (xty c k = .boolean ∧ (x = 0 ∨ x = 1))) (kk : aW G X Y n K (xu I r k x) P cells slots nx lv st) : aW G X Y n K I P cells slots pc lv (.int x :: .ref r :: st) := by
  refine xa_put (v := .int x) (I' := xu I r k x) (P' := P) hX hY hC hr hk hs (Or.inl hfin) ?_ ?_ (fun j hj => ?_) (fun q hq => xE_ne (xu_ne hq) rfl) (fun h j hj => xu_ne (by omega)) kk
  · rcases ht with h | ⟨h, h2⟩
    · rw [h]; rfl
    · rw [h]; rcases h2 with rfl | rfl <;> rfl
  · rcases ht with h | ⟨h, h2⟩
    · rw [h]; rfl
    · rw [h]; rcases h2 with rfl | rfl <;> rfl
  · by_cases hjk : j = k
    · subst hjk
      rw [if_pos rfl]
      rw [xfv_int (by rcases ht with h | h; exact Or.inl h; exact Or.inr h.1), xu_self]
      simp [upd]; rfl
    · rw [if_neg hjk]
      unfold xfv
      rw [xu_self]
      simp [upd, hjk]
theorem ax_putp {c w k q : Nat} (hX : xAmb G X Y d mc ms) (hY : xpOK Y = true) (hC : Y.1.cls = xcn Y.2.2.2.2.2) (hr : r < n) (hk : K r = (c, w)) (hs : xpf Y pc c = some (k, nx))
    (hfin : (xTc c k).2.2.2 = false ∨ ((xTc c k).2.2.2 = true ∧ Y.1.name = "<init>" ∧ (xTc c k).1 = Y.1.cls)) (ht : (xty c k).isReference = true) (kk : aW G X Y n K I (xup P r k (some q)) cells slots nx lv st) : aW G X Y n K I P cells slots pc lv (.ref q :: .ref r :: st) := by
  refine xa_put (v := .ref q) (I' := I) (P' := xup P r k (some q)) hX hY hC hr hk hs hfin ?_ ?_ (fun j hj => ?_) (fun q hq => xE_ne rfl (xup_ne hq)) (fun _ _ _ => rfl) kk
  · cases hx : xty c k <;> rw [hx] at ht <;> first | (cases ht; done) | rfl
  · cases hx : xty c k <;> rw [hx] at ht <;> first | (cases ht; done) | rfl
  · by_cases hjk : j = k
    · subst hjk
      rw [if_pos rfl]
      exact xfv_ref ht (by rw [xup_self]; simp [va_up])
    · rw [if_neg hjk]
      unfold xfv
      rw [xup_self]
      simp [va_up, hjk]
/-- a reference is put into an array of STROKES or TEXTS -/
theorem ax_aast {c w q cq wq : Nat} {i : Int32} {E : String} (hX : xAmb G X Y d mc ms) (hY : xpOK Y = true) (hr : r < n) (hk : K r = (c, w)) (hq : q < n) (hkq : K q = (cq, wq)) (hcq : cq < 13)
    (hE : (c = 15 ∧ E = "HandOverHorse$Stroke") ∨ (c = 16 ∧ E = "HandOverHorse$Text")) (hca : xcn cq = E ∨ Cond.castable (xcn cq) E ∈ xw) (hs : xis Y pc xq_aast = some nx) (hi : vp_in i w) (kk : aW G X Y n K I (xup P r i.toNatClampNeg (some q)) cells slots nx lv st) : aW G X Y n K I P cells slots pc lv (.ref q :: .int i :: .ref r :: st) := by
  obtain ⟨hd, rfl⟩ := xis_dec (ins := .aastore) hY hs (fun i h => by cases i <;> first | rfl | cases h) (by decide)
  intro H locs ls hR hlo hlv
  have ha := hR.at hr
  rw [xE_ref hk (by omega)] at ha
  have ha2 : H[G.2.2.1 + r]? = some (arrV (G.2.1 c) w (fun j => va_rf ((P r j).map (xmu G)))) := ha
  have hv := hR.at hq
  rw [xE_obj hkq hcq] at hv
  have e1 : xv G (.ref r) = .ref (G.2.2.1 + r) := congrArg Value.ref (xmu_new (hR.lt hr))
  have e2 : xv G (.ref q) = .ref (G.2.2.1 + q) := congrArg Value.ref (xmu_new (hR.lt hq))
  show W _ _ _ _ _ _ _ _ _ _ H locs cells slots _ (F0 _ pc ls (xv G (.ref q) :: .int i :: xv G (.ref r) :: st.map (xv G)))
  rw [e1, e2]
  have hK := hX.2.2.2.2.2.1.1
  have hts := hX.2.2.2.2.1
  have hlt : i.toNatClampNeg < w := Nat.not_le.mp fun q => hi (Or.inr q)
  have h0 : ¬ i < 0 := fun q => hi (Or.inl q)
  obtain ⟨r', hr', cellV, g1, g2, g3, -⟩ := hv
  have hcls := (hK.1 cq _ (xCl_get hcq)).2
  have hty : ∃ t0 : Nat, (xTys G)[t0]? = some (G.2.1 c, FieldType.object E) := by
    rcases hE with ⟨rfl, rfl⟩ | ⟨rfl, rfl⟩
    · exact ⟨2, rfl⟩
    · exact ⟨3, rfl⟩
  obtain ⟨t0, ht0⟩ := hty
  obtain ⟨kA, comp, k1, k2, k3, -⟩ := (hK.2 t0 _ ht0).2
  obtain ⟨kE, hkE, -⟩ := Vm.findClass_spec k3
  obtain ⟨kC, hkC, hkd⟩ := hcls.2
  have hasg : X.2.2.2.2.1.vm.assignable cellV.cls comp = true := by
    rw [g2]
    rcases hca with h | h
    · have : comp = G.1.1 cq := Option.some.inj (k3.symm.trans (h ▸ hcls.1))
      rw [this]
      exact va_assign hcls
    · obtain ⟨c0, t1, f1, f2, f3⟩ := Cond.castable_spec (hts _ h)
      cases hcls.1.symm.trans f1
      cases k3.symm.trans f2
      exact f3
  refine W.aast hX.1 hX.2.1 ha2 (fun q h => by cases h) (fun h => by cases h) k1 k2 rfl hkE ⟨h0, by rw [arrV_size]; exact hlt⟩ g1 (fun q h => by rw [g3] at h; cases h) (by rw [g2]; exact hkC) hasg rfl rfl hd fun H1 e z oq => ?_
  refine kk H1 _ ls (hR.set hr z oq ?_ (fun q hq => xE_ne rfl (xup_ne hq)) (fun _ _ => rfl)) (t_lc hlo (by show G.2.2.1 ≤ _; omega)) hlv
  rw [xE_ref hk (by omega), xup_self]
  show H1[G.2.2.1 + r]? = some (vp_cell _ _)
  rw [e, vp_cell_q, arrV_store]
  congr 2
  funext j
  by_cases hj : j = i.toNatClampNeg
  · subst hj
    simp [updV, va_up, va_rf, xmu_new (hR.lt hq)]
  · simp [updV, va_up, hj]
end AF
