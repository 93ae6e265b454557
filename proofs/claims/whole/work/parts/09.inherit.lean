/-! inherited methods: super.y() where a class above the named one declares it; a static method that a class above the named one declares -/
section CX
variable {p : Program} {l : Launch} {e : Env} {R : Room} {s : State} {m : MethodId} {args : Array Value} {below : List Frame} {meth : Method} {c : Code}
theorem xa_sub {vm : Vm} {a b : ClassId} {k : Class} (hk : vm.classes[a]? = some k) (hs : k.super = some b) : vm.isSubclass a b = true := by
  have hlt : a < vm.classes.size := (Array.getElem?_eq_some_iff.mp hk).1
  unfold Vm.isSubclass
  cases hz : vm.classes.size with
  | zero => rw [hz] at hlt; exact absurd hlt (Nat.not_lt_zero _)
  | succ n =>
    unfold Vm.isSubclassAux
    rw [hk]
    simp only [hs]
    unfold Vm.isSubclassAux
    simp
theorem xa_callSX {T : State} {locs : List Loc} {cells slots : Nat} (X : Stand p l e R s m args below meth c T locs cells slots) (hexec : p.tables.exec = Jvm.exec) {own : String} {index : Nat} {x y : MethodName} {bytes : ByteArray} {maxL : Nat} {ret : Option FieldType}
    (hown : s.vm.findClass own = some m.cls) (hlink : (Cond.methodLink own index x).before args s = true) (hsame : (Cond.sameMethod x.cls y.cls x.name x.desc).before args s = true) (hyx : y = ⟨y.cls, x.name, x.desc⟩) (hsup : (Cond.superclass own x.cls).before args s = true) (hsup2 : (Cond.superclass x.cls y.cls).before args s = true)
    (hinst : (Cond.instanceMethod y).before args s = true) (hcode : (Cond.code y bytes maxL ret).before args s = true) (hno : x.name ≠ "<init>")
    {W : Nat} {Pre : Pt → Array Value → Prop} {Post : Pt → Array Value → Option Value → Pt → Prop} (hK : Back l R p e below s args y 3 W Pre Post)
    {b : Addr} {cellB : Cell} {kB : Class} (hcell : T.heap[b]? = some cellB) (hobj : cellB.vm.isStatics = false) (hkB : s.vm.classes[cellB.cls]? = some kB)
    {g : JFrame} (hg : g.method = m) (hsize : g.locals.size = c.maxLocals) {argsL rest : List Value} (hlen : ∀ sig, parseMethodDescriptor y.desc = some sig → argsL.length = sig.parameters.length)
    (hstack : g.stack = argsL.reverse ++ .ref b :: rest) (hW : 2 * g.monitorRoom + (rest.map fun v => v.category).sum ≤ W) (hdg : decode c.code g.pc = .ok (.invokespecial index, 3))
    (hpre : ∀ vm₁, s.WarmedH vm₁ → Pre ⟨T.setVm vm₁, locs, cells, slots⟩ (Value.ref b :: argsL).toArray) :
    ∃ (v : Option Value) (vm₁ : Vm) (B : Pt), s.WarmedH vm₁ ∧ Stand p l e R s m args below meth c B.U B.locs B.cells B.slots ∧ Post ⟨T.setVm vm₁, locs, cells, slots⟩ (Value.ref b :: argsL).toArray v B ∧
      ∀ target, Steps p.tables e below (B.U.setTop { g with pc := g.pc + 3, stack := v.toList ++ rest }) target → Steps p.tables e below (T.setTop g) target := by
  obtain ⟨mk, methM, hnamed, hmethM, hstM, habM⟩ := Cond.instanceMethod_spec hinst
  obtain ⟨methM', cM, hmethM', -, -, -, -, -, -, hsigM⟩ := Cond.code_spec hnamed hcode
  cases hmethM.symm.trans hmethM'
  obtain ⟨ps, dk, kp, hps, hdk, hkp, hsuper, -, -, hnid⟩ := Cond.superclass_spec hown hsup
  obtain ⟨ps2, dk2, kp2, hps2, hdk2, hkp2, hsuper2, -, -, -⟩ := Cond.superclass_spec hps hsup2
  have hn : s.methodNamed? ⟨y.cls, x.name, x.desc⟩ = some mk := by rw [← hyx]; exact hnamed
  have hpm : ps2 = mk.cls := Option.some.inj (hps2.symm.trans (findClass_of_methodNamed hnamed))
  have hsub : s.vm.isSubclass ps mk.cls = true := by rw [← hpm]; exact xa_sub hdk2 hsuper2
  obtain ⟨vm₁, X₁, hstep₁⟩ := X.invokespecialUp hexec hown hlink hsame hn hmethM hstM habM hno hdk hnid hps hsuper hsub (a := b) (cell := cellB) hcell
    (fun z h => by rw [h] at hobj; cases hobj) hkB (g := g) hg (argsL := argsL) (rest := rest) (hlen _ hsigM) hstack hdg
  obtain ⟨v, B, X', hpost, hsteps⟩ := hK m meth c ⟨T.setVm vm₁, locs, cells, slots⟩ { g with stack := rest } (.invokespecial index) mk (Value.ref b :: argsL).toArray X₁ hg hsize hdg hW (X₁.named hnamed) (hpre vm₁ X₁.warmed)
  exact ⟨v, vm₁, B, X₁.warmed, X', hpost, fun target h => hstep₁ _ (by rw [doInvoke_state]; exact hsteps.trans h)⟩
theorem xa_coldUp {Q : Unit → Pre} {E : CtlPost} {d : Bool} {acts : List Action} {T s₀ : State} {f : JFrame} {index ci n cn : Nat} {r : MethodId} {dk ck : Class} {cf : ClassFile} {name desc : String} {via : Bool} (hs : T.topJava?.isSome) (hp : e.platform.polymorphicOnlyByInvokevirtual = true)
    (hW : s₀.WarmedH T.vm) (hE : s₀.MethodEntryUp e T.vm f.method.cls index cn r ci) (h1 : s₀.vm.classes[f.method.cls]? = some dk) (h2 : dk.cf = some cf)
    (h3 : cf.constantPool[index]? = some (if via then .interfaceMethodref ci n else .methodref ci n)) (h4 : cf.constantPool.nameAndType? n = some (name, desc))
    (hck : s₀.vm.classes[cn]? = some ck) (hnone : (ck.methods.any fun x => x.name == name && !x.isStatic && signaturePolymorphic ck x) = false) :
    wp (Op.invokestatic.sem index) Q E e d acts (T.setTop f) ↔ wp (Op.invokestatic.sem index) Q E e d acts ((T.setVm (T.vm.calledUp f.method.cls ci index cn r)).setTop f) := by
  obtain ⟨hgc, hrc, hW₁, hgm⟩ := hE.classFirst
  obtain ⟨k₀, hk₀, he₀⟩ := hW.alike.2.2 _ _ h1
  obtain ⟨k₂, hk₂, he₂⟩ := hE.warmed.alike.2.2 _ _ h1
  obtain ⟨c₁, hc₁, hec₁⟩ := hW₁.alike.2.2 _ _ hck
  obtain ⟨c₂, hc₂, hec₂⟩ := hE.warmed.alike.2.2 _ _ hck
  have hb₀ := memberRef_ask_via (e := e) hk₀ (by rw [he₀]; exact h2) h3 h4
  have hb₂ := memberRef_ask_via (e := e) hk₂ (by rw [he₂]; exact h2) h3 h4
  have hn₁ : (c₁.methods.any fun x => x.name == name && !x.isStatic && signaturePolymorphic c₁ x) = false := by rw [hec₁]; exact hnone
  have hn₂ : (c₂.methods.any fun x => x.name == name && !x.isStatic && signaturePolymorphic c₂ x) = false := by rw [hec₂]; exact hnone
  have hs₁ : (T.setVm (T.vm.noted f.method.cls ci (.cls cn))).topJava?.isSome := hs
  have hs₂ : (T.setVm (T.vm.calledUp f.method.cls ci index cn r)).topJava?.isSome := hs
  have hL : ∀ {Q' : ClassId → Pre} {d' : Bool} {acts' : List Action}, wp (Jvm.resolveClassAt ci) Q' E e d' acts' (T.setTop f) ↔ Q' cn d' acts' ((T.setVm (T.vm.noted f.method.cls ci (.cls cn))).setTop f) :=
    W.resolveClassAt_links (t := T.setTop f) (State.method?_setTop f hs) hgc
  have hM : ∀ {Q' : MethodId → Pre} {d' : Bool} {acts' : List Action}, wp (Jvm.resolveMethodAt index) Q' E e d' acts' ((T.setVm (T.vm.noted f.method.cls ci (.cls cn))).setTop f) ↔ Q' r d' acts' ((T.setVm (T.vm.calledUp f.method.cls ci index cn r)).setTop f) :=
    W.resolveMethodAt_links (t := (T.setVm (T.vm.noted f.method.cls ci (.cls cn))).setTop f) (State.method?_setTop f hs₁) hgm
  simp [Op.invokestatic.sem, hp, Seam.memberRefOf, State.method?_setTop f hs, State.method?_setTop f hs₂, hb₀, hb₂, hL, W.resolveClassAt_ready (s := (T.setVm (T.vm.calledUp f.method.cls ci index cn r)).setTop f) (State.method?_setTop f hs₂) hE.classReady,
    hc₁, hc₂, hn₁, hn₂, hM, W.resolveMethodAt_ready (s := (T.setVm (T.vm.calledUp f.method.cls ci index cn r)).setTop f) (State.method?_setTop f hs₂) hE.ready, -Array.any_eq_true]
theorem xa_statUp {T : State} {locs : List Loc} {cells slots : Nat} (X : Stand p l e R s m args below meth c T locs cells slots) (hexec : p.tables.exec = Jvm.exec)
    {own owner : String} {index : Nat} {x : MethodName} (hown : s.vm.findClass own = some m.cls) (hlink : (Cond.methodLink own index x).before args s = true)
    (hsame : (Cond.sameMethod x.cls owner x.name x.desc).before args s = true) (howner : owner ≠ "java/lang/invoke/MethodHandle" ∧ owner ≠ "java/lang/invoke/VarHandle")
    {r0 : MethodId} {r : Method} {kr : Class} (hn : s.methodNamed? ⟨owner, x.name, x.desc⟩ = some r0) (hrm : s.vm.method? r0 = some r) (hstatic : r.isStatic = true) (hkr : s.vm.classes[r0.cls]? = some kr) (hinit : kr.init = .initialized)
    {g : JFrame} (hg : g.method = m) {argsL rest : List Value} (hlen : argsL.length = r.sig.parameters.length) (hstack : g.stack = argsL.reverse ++ rest)
    (hdg : decode c.code g.pc = .ok (.invokestatic index, 3)) :
    ∃ vm', Stand p l e R s m args below meth c (T.setVm vm') locs cells slots ∧
      ∀ target, (∀ acts, Steps p.tables e below (doInvoke e ((T.setVm vm').setTop { g with stack := rest }) acts r0 argsL.toArray).1 target) → Steps p.tables e below (T.setTop g) target := by
  have hpl : e.platform.magicAccessors = ({} : Platform).magicAccessors := by rw [X.admits.platform]
  have hpv : e.platform.polymorphicOnlyByInvokevirtual = true := by rw [X.admits.platform]
  obtain ⟨cn, ck, r1, hcn, hck, hni, hf, hn1⟩ := Cond.sameMethod_found hsame
  cases hn.symm.trans hn1
  obtain ⟨ci, hl, hright⟩ := Cond.methodLink_specUp hown hcn hck hni hf hlink e.platform hpl (by rw [X.admits.platform])
  have hE : s.MethodEntryUp e T.vm m.cls index cn r0 ci := State.methodEntryUp X.warmed hl hright
  obtain ⟨kr', hkr', hnr⟩ := className_of_methodNamed hn
  cases hkr.symm.trans hkr'
  obtain ⟨dk, cfile, nt, mname, mdesc, ck₀, _, _, hd, hcf, hcp, hnt, -, -, hc₀, -, hpoly, -⟩ := hl.here
  cases hck.symm.trans hc₀
  have alike := hE.warmed.alike
  obtain ⟨dk₂, hdk₂, hed₂⟩ := alike.2.2 _ _ hd
  obtain ⟨kr₂, hkr₂, her₂⟩ := alike.2.2 _ _ hkr
  obtain ⟨ck₂, hck₂, hec₂⟩ := alike.2.2 _ _ hck
  have hnone : (ck.methods.any fun y => y.name == mname && !y.isStatic && signaturePolymorphic ck y) = false := by simp [hpoly]
  have hnone₂ : (ck₂.methods.any fun y => y.name == mname && !y.isStatic && signaturePolymorphic ck₂ y) = false := by rw [hec₂]; exact hnone
  refine ⟨T.vm.calledUp m.cls ci index cn r0, X.noted hE.warmed, fun target hrest => ?_⟩
  subst hg
  jvm_step X.here [hexec, hdg, xa_coldUp (e := e) (T := T) (s₀ := s) (f := g) (via := false) X.here.top hpv X.warmed hE hd hcf hcp hnt hck hnone,
    Op.invokestatic.wp_ready (e := e) (s := T.setVm (T.vm.calledUp g.method.cls ci index cn r0)) (k := kr₂) (meth := r) (m := r0) (args := argsL) (rest := rest) (f := g)
      X.here.top ⟨ci, mname, mdesc, false, cn, ck₂, memberRef_ask_via (e := e) (via := false) hdk₂ (by rw [hed₂]; exact hcf) hcp hnt, hE.classReady, hck₂, hnone₂⟩ hE.ready hkr₂
      (by show (T.vm.calledUp g.method.cls ci index cn r0).method? r0 = some r; rw [alike.method?]; exact hrm) (by rw [her₂]; show signaturePolymorphic kr r = false; simp [signaturePolymorphic, hnr, howner.1, howner.2]) hstatic (by rw [her₂]; exact hinit) hlen hstack]
  exact fun acts => hrest _
theorem xa_callSS {T : State} {locs : List Loc} {cells slots : Nat} (X : Stand p l e R s m args below meth c T locs cells slots) (hexec : p.tables.exec = Jvm.exec) {own : String} {index : Nat} {x y : MethodName} {bytes : ByteArray} {maxL : Nat} {ret : Option FieldType}
    (hown : s.vm.findClass own = some m.cls) (hlink : (Cond.methodLink own index x).before args s = true) (hsame : (Cond.sameMethod x.cls y.cls x.name x.desc).before args s = true) (hyx : y = ⟨y.cls, x.name, x.desc⟩) (hstat : (Cond.static y).before args s = true) (hini : (Cond.initialized y.cls).before args s = true)
    (hcode : (Cond.code y bytes maxL ret).before args s = true) (hy : y.cls ≠ "java/lang/invoke/MethodHandle" ∧ y.cls ≠ "java/lang/invoke/VarHandle")
    {W : Nat} {Pre : Pt → Array Value → Prop} {Post : Pt → Array Value → Option Value → Pt → Prop} (hK : Back l R p e below s args y 3 W Pre Post)
    {g : JFrame} (hg : g.method = m) (hsize : g.locals.size = c.maxLocals) {argsL rest : List Value} (hlen : ∀ sig, parseMethodDescriptor y.desc = some sig → argsL.length = sig.parameters.length)
    (hstack : g.stack = argsL.reverse ++ rest) (hW : 2 * g.monitorRoom + (rest.map fun v => v.category).sum ≤ W) (hdg : decode c.code g.pc = .ok (.invokestatic index, 3))
    (hpre : ∀ vm₁, s.WarmedH vm₁ → Pre ⟨T.setVm vm₁, locs, cells, slots⟩ argsL.toArray) :
    ∃ (v : Option Value) (vm₁ : Vm) (B : Pt), s.WarmedH vm₁ ∧ Stand p l e R s m args below meth c B.U B.locs B.cells B.slots ∧ Post ⟨T.setVm vm₁, locs, cells, slots⟩ argsL.toArray v B ∧
      ∀ target, Steps p.tables e below (B.U.setTop { g with pc := g.pc + 3, stack := v.toList ++ rest }) target → Steps p.tables e below (T.setTop g) target := by
  obtain ⟨mk, hnamed⟩ := Cond.code_named hcode
  obtain ⟨methM, cM, hmethM, -, -, -, -, -, -, hsigM⟩ := Cond.code_spec hnamed hcode
  have hstatic : methM.isStatic = true := Cond.static_spec hnamed hmethM hstat
  obtain ⟨kP, hkP, -⟩ := className_of_methodNamed hnamed
  have hinitP : kP.init = .initialized := Cond.initialized_spec (findClass_of_methodNamed hnamed) hkP hini
  have hn : s.methodNamed? ⟨y.cls, x.name, x.desc⟩ = some mk := by rw [← hyx]; exact hnamed
  obtain ⟨vm₁, X₁, hstep₁⟩ := xa_statUp X hexec hown hlink hsame hy hn hmethM hstatic hkP hinitP (g := g) hg (argsL := argsL) (rest := rest) (hlen _ hsigM) hstack hdg
  obtain ⟨v, B, X', hpost, hsteps⟩ := hK m meth c ⟨T.setVm vm₁, locs, cells, slots⟩ { g with stack := rest } (.invokestatic index) mk argsL.toArray X₁ hg hsize hdg hW (X₁.named hnamed) (hpre vm₁ X₁.warmed)
  exact ⟨v, vm₁, B, X₁.warmed, X', hpost, fun target h => hstep₁ _ fun acts => by rw [doInvoke_state]; exact hsteps.trans h⟩
end CX
/-- super.x() that a class above the superclass declares: Y' -/
def xLsx (own : String) (idx : Nat) (x : MethodName) (Y' : MI) (np : Nat) : Prop := Cond.methodLink own idx x ∈ xw ∧ Cond.sameMethod x.cls Y'.1.cls x.name x.desc ∈ xw ∧ Y'.1 = ⟨Y'.1.cls, x.name, x.desc⟩ ∧ Cond.superclass own x.cls ∈ xw ∧ Cond.superclass x.cls Y'.1.cls ∈ xw ∧ Cond.instanceMethod Y'.1 ∈ xw ∧ Cond.initialized Y'.1.cls ∈ xw ∧ Cond.code Y'.1 Y'.2.1 Y'.2.2.1 Y'.2.2.2.1 ∈ xw ∧ x.name ≠ "<init>" ∧ (parseMethodDescriptor Y'.1.desc).map (fun d => d.parameters.length) = some np ∧ Y'.2.2.1 ≤ 45
/-- a static method x that a class above x's declares: Y' -/
def xLsS (own : String) (idx : Nat) (x : MethodName) (Y' : MI) (np : Nat) : Prop := Cond.methodLink own idx x ∈ xw ∧ Cond.sameMethod x.cls Y'.1.cls x.name x.desc ∈ xw ∧ Y'.1 = ⟨Y'.1.cls, x.name, x.desc⟩ ∧ Cond.static Y'.1 ∈ xw ∧ Cond.initialized Y'.1.cls ∈ xw ∧ Cond.code Y'.1 Y'.2.1 Y'.2.2.1 Y'.2.2.2.1 ∈ xw ∧ (Y'.1.cls ≠ "java/lang/invoke/MethodHandle" ∧ Y'.1.cls ≠ "java/lang/invoke/VarHandle") ∧ (parseMethodDescriptor Y'.1.desc).map (fun d => d.parameters.length) = some np ∧ Y'.2.2.1 ≤ 45
section AX2
variable {G : xG} {X : xC} {Y Y' : MI} {d d' mc ms mc' ms' n np idx a : Nat} {cs : List (Int32 × Nat)} {K : Nat → Nat × Nat} {I : Nat → Nat → Int32} {P : Nat → Nat → Option Nat} {cells slots pc nx r : Nat} {lv st as rest : List Value} {Post' : xPost}
theorem ax_SX {x : MethodName} {c w : Nat} (hX : xAmb G X Y d mc ms) (hY : xpOK Y = true) (hs : xlook Y.2.2.2.2.1 pc = some (.invokespecial idx, nx, a, cs)) (hl : xLsx Y.1.cls idx x Y' np) (hr : r < n) (hk : K r = (c, w)) (hc13 : c < 13) (hc : cM G d' Y' (.ref r :: as) n K I P mc' ms' Post') (hd' : d' < d) (hn : as.length = np) (hst : st = as.reverse ++ .ref r :: rest) (hr8 : (rest.map fun v => v.category).sum ≤ 8) (hm : cells + mc' ≤ mc ∧ slots + ms' ≤ ms)
    (kk : ∀ v n' K' I' P', Post' v n' K' I' P' → aW G X Y n' K' I' P' (cells + mc') (slots + ms') nx lv (v.toList ++ rest)) : aW G X Y n K I P cells slots pc lv st := by
  obtain ⟨hd, -, hlen, -⟩ := xdec hY hs
  obtain rfl : nx = pc + 3 := by simpa [xlen] using hlen
  rw [Nat.add_sub_cancel_left] at hd
  intro H locs ls hR hlo hlv
  have hts := hX.2.2.2.2.1
  obtain ⟨h1, h2, h3, h4, h4b, h5, h6, h7, h8, h9, h10⟩ := hl
  have ha := hR.at hr
  rw [xE_obj hk hc13] at ha
  have hK := hX.2.2.2.2.2.1.1
  have hrec := va_recv hK (va_P_one ha) (xCl_get hc13) (q0 := 0) rfl
  have e1 : xmu G r = G.2.2.1 + r := xmu_new (hR.lt hr)
  have hxm := xmono (mc' := mc') (ms' := ms') hX hd' h10
  obtain ⟨p, l, e, R, s, m, args, below, meth, cde, Q⟩ := X
  dsimp only at hts hK hrec hxm hX ⊢
  have hblind : FrameBlind (cPre G (.ref r :: as) n K I P) := cPre_blind
  have hK2 : Back l R p e below s args Y'.1 3 8 (PreOf R mc' ms' (cPre G (.ref r :: as) n K I P)) (PostOf (cPost G Post') mc' ms' (xA G)) :=
    back_of (bytes := Y'.2.1) (maxL := Y'.2.2.1) (ret := Y'.2.2.2.1) (ws := cWs Y') (rm := rmD d' mc' ms') (hc l) hblind rfl rfl hxm.1 hxm.2 (pay_in hts (xgood h7)) List.mem_cons_self (fun a' U hW => word_at hW (Or.inl (by first | rfl | simp [Cond.onTables, Cond.keeps, Cond.steady])) (hts _ h6))
  obtain ⟨cellB, hcB, hoB, hclB⟩ := hrec
  obtain ⟨hfc, kB, hkB, -⟩ := (hK.1 c _ (xCl_get hc13)).2
  have hce : G.1.1 c = cellB.cls := Option.some.inj (hfc.symm.trans hclB)
  rw [hce] at hkB
  have hrun : va_Run p l e R s m args below meth cde H locs cells slots mc' ms' (F0 m pc ls (st.map (xv G))) (rest.map (xv G)) (cPost G Post' (Value.ref (G.2.2.1 + r) :: as.map (xv G)).toArray) (xA G) := by
    intro T hT X
    obtain ⟨v, vm₁, ⟨U', l2, c2, s2⟩, hW₁, X', ⟨g', mk, t, L, e1', e2, hq, g1, hL, g2, g3⟩, st'⟩ := xa_callSX X hX.1 (bytes := Y'.2.1) (maxL := Y'.2.2.1) (ret := Y'.2.2.2.1) hX.2.2.2.1 (hts _ h1) (hts _ h2) h3 (hts _ h4) (hts _ h4b) (hts _ h5) (hts _ h7) h8 hK2 (b := G.2.2.1 + r) (by rw [hT]; exact hcB) hoB hkB (g := F0 m pc ls (st.map (xv G))) rfl (hlv.1.trans hX.2.2.1.symm) (argsL := as.map (xv G)) (rest := rest.map (xv G)) (fun sig h => by
        rw [h] at h9
        rw [List.length_map, hn]
        exact (Option.some.inj h9).symm) (by show st.map (xv G) = _; rw [hst, List.map_append, List.map_reverse, ← e1]; rfl) (lv_room (by rw [xcats]; exact hr8)) (by rw [hX.2.1]; exact hd)
      (fun vm₁ hW₁ => ⟨(xroom hX hm).1, (xroom hX hm).2, by rw [← e1]; rfl, by show xR G n K I P T.heap; rw [hT]; exact hR, hX.2.2.2.2.2.1.warm hW₁⟩)
    dsimp only [Pt.U, Pt.locs, Pt.cells, Pt.slots] at X' e1' e2 g1 g2 g3 st'
    subst g1; subst g2; subst g3
    exact ⟨v, (T.setVm vm₁).calling g' mk (Value.ref (G.2.2.1 + r) :: as.map (xv G)).toArray, t, U', L, hT, X', hL, e1', e2, hq, st'⟩
  refine xrun hrun hlo ?_
  intro v n' K' I' P' H1 locs1 hp hR1 hlo1
  have k2 := kk v n' K' I' P' hp H1 locs1 ls hR1 hlo1 hlv
  rw [List.map_append] at k2
  cases v <;> exact k2
theorem ax_SS {x : MethodName} (hX : xAmb G X Y d mc ms) (hY : xpOK Y = true) (hs : xlook Y.2.2.2.2.1 pc = some (.invokestatic idx, nx, a, cs)) (hl : xLsS Y.1.cls idx x Y' np) (hc : cM G d' Y' as n K I P mc' ms' Post') (hd' : d' < d) (hn : as.length = np) (hst : st = as.reverse ++ rest) (hr8 : (rest.map fun v => v.category).sum ≤ 8) (hm : cells + mc' ≤ mc ∧ slots + ms' ≤ ms)
    (kk : ∀ v n' K' I' P', Post' v n' K' I' P' → aW G X Y n' K' I' P' (cells + mc') (slots + ms') nx lv (v.toList ++ rest)) : aW G X Y n K I P cells slots pc lv st := by
  obtain ⟨hd, -, hlen, -⟩ := xdec hY hs
  obtain rfl : nx = pc + 3 := by simpa [xlen] using hlen
  rw [Nat.add_sub_cancel_left] at hd
  intro H locs ls hR hlo hlv
  have hts := hX.2.2.2.2.1
  obtain ⟨h1, h2, h3, h4, h6, h7, h8, h9, h10⟩ := hl
  have hxm := xmono (mc' := mc') (ms' := ms') hX hd' h10
  obtain ⟨p, l, e, R, s, m, args, below, meth, cde, Q⟩ := X
  dsimp only at hts hxm hX ⊢
  have hblind : FrameBlind (cPre G as n K I P) := cPre_blind
  have hK2 : Back l R p e below s args Y'.1 3 8 (PreOf R mc' ms' (cPre G as n K I P)) (PostOf (cPost G Post') mc' ms' (xA G)) :=
    back_of (bytes := Y'.2.1) (maxL := Y'.2.2.1) (ret := Y'.2.2.2.1) (ws := cWs Y') (rm := rmD d' mc' ms') (hc l) hblind rfl rfl hxm.1 hxm.2 (pay_in hts (xgood h7)) List.mem_cons_self (fun a' U hW => word_at hW (Or.inl (by first | rfl | simp [Cond.onTables, Cond.keeps, Cond.steady])) (hts _ h6))
  have hrun : va_Run p l e R s m args below meth cde H locs cells slots mc' ms' (F0 m pc ls (st.map (xv G))) (rest.map (xv G)) (cPost G Post' (as.map (xv G)).toArray) (xA G) := by
    intro T hT X
    obtain ⟨v, vm₁, ⟨U', l2, c2, s2⟩, hW₁, X', ⟨g', mk, t, L, e1', e2, hq, g1, hL, g2, g3⟩, st'⟩ := xa_callSS X hX.1 (bytes := Y'.2.1) (maxL := Y'.2.2.1) (ret := Y'.2.2.2.1) hX.2.2.2.1 (hts _ h1) (hts _ h2) h3 (hts _ h4) (hts _ h6) (hts _ h7) h8 hK2 (g := F0 m pc ls (st.map (xv G))) rfl (hlv.1.trans hX.2.2.1.symm) (argsL := as.map (xv G)) (rest := rest.map (xv G)) (fun sig h => by
        rw [h] at h9
        rw [List.length_map, hn]
        exact (Option.some.inj h9).symm) (by show st.map (xv G) = _; rw [hst, List.map_append, List.map_reverse]) (lv_room (by rw [xcats]; exact hr8)) (by rw [hX.2.1]; exact hd)
      (fun vm₁ hW₁ => ⟨(xroom hX hm).1, (xroom hX hm).2, rfl, by show xR G n K I P T.heap; rw [hT]; exact hR, hX.2.2.2.2.2.1.warm hW₁⟩)
    dsimp only [Pt.U, Pt.locs, Pt.cells, Pt.slots] at X' e1' e2 g1 g2 g3 st'
    subst g1; subst g2; subst g3
    exact ⟨v, (T.setVm vm₁).calling g' mk (as.map (xv G)).toArray, t, U', L, hT, X', hL, e1', e2, hq, st'⟩
  refine xrun hrun hlo ?_
  intro v n' K' I' P' H1 locs1 hp hR1 hlo1
  have k2 := kk v n' K' I' P' hp H1 locs1 ls hR1 hlo1 hlv
  rw [List.map_append] at k2
  cases v <;> exact k2
end AX2
