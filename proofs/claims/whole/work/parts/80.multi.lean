/-! multianewarray: four rows of forty ints -/
def mgO (c : ClassId) (h i : Nat) : Cell := arrV c 4 (fun j => if j < i then .ref (h + 1 + j) else .null)
def mgI (k : ClassId) : Cell := arrV k 40 (fun _ => .int 0)
def mgF (s : State) (c k : ClassId) : Nat → State
  | 0 => s.pushCell (mgO c s.heap.size 0)
  | i + 1 => ((mgF s c k i).pushCell (mgI k)).setCell s.heap.size ((mgO c s.heap.size i).setSlot i (.ref (s.heap.size + 1 + i)))
theorem mgO_step (c : ClassId) (h i : Nat) : (mgO c h i).setSlot i (.ref (h + 1 + i)) = mgO c h (i + 1) := by
  unfold mgO
  rw [arrV_store]
  congr 1
  funext j
  unfold updV
  by_cases e : j = i
  · subst e; rw [if_pos rfl, if_pos (by omega)]
  · by_cases hj : j < i
    · rw [if_neg e]
      show (if j < i then Value.ref (h + 1 + j) else Value.null) = if j < i + 1 then Value.ref (h + 1 + j) else Value.null
      rw [if_pos hj, if_pos (by omega)]
    · rw [if_neg e]
      show (if j < i then Value.ref (h + 1 + j) else Value.null) = if j < i + 1 then Value.ref (h + 1 + j) else Value.null
      rw [if_neg hj, if_neg (by omega)]
theorem mgF_facts (s : State) (c k : ClassId) (i : Nat) : (mgF s c k i).heap.size = s.heap.size + 1 + i ∧ (mgF s c k i).heap[s.heap.size]? = some (mgO c s.heap.size i) ∧ (mgF s c k i).vm = s.vm ∧ (mgF s c k i).slotsUsed = s.slotsUsed + 4 + i * 40 ∧ (∀ j, j < i → (mgF s c k i).heap[s.heap.size + 1 + j]? = some (mgI k)) ∧ ∀ q, q < s.heap.size → (mgF s c k i).heap[q]? = s.heap[q]? := by
  induction i with
  | zero =>
    refine ⟨?_, ?_, rfl, ?_, fun j hj => absurd hj (Nat.not_lt_zero _), fun q hq => ?_⟩
    · show (s.heap.push _).size = _
      rw [Array.size_push]
    · show (s.heap.push _)[s.heap.size]? = _
      rw [Array.getElem?_push_size]
    · show s.slotsUsed + (mgO c s.heap.size 0).slots.size = _
      unfold mgO
      rw [arrV_size]
    · show (s.heap.push _)[q]? = _
      rw [Array.getElem?_push, if_neg (Nat.ne_of_lt hq)]
  | succ i ih =>
    obtain ⟨f1, f2, f3, f4, f5, f6⟩ := ih
    have e : (mgF s c k (i + 1)).heap = ((mgF s c k i).heap.push (mgI k)).setIfInBounds s.heap.size (mgO c s.heap.size (i + 1)) := by rw [← mgO_step]; rfl
    refine ⟨?_, ?_, f3, ?_, fun j hj => ?_, fun q hq => ?_⟩
    · rw [e, Array.size_setIfInBounds, Array.size_push, f1]; omega
    · rw [e, Array.getElem?_setIfInBounds, if_pos rfl, Array.size_push, if_pos (by omega)]
    · show (mgF s c k i).slotsUsed + (mgI k).slots.size = _
      unfold mgI
      rw [arrV_size, f4]
      omega
    · rw [e, Array.getElem?_setIfInBounds, if_neg (by omega), Array.getElem?_push]
      by_cases hji : j = i
      · subst hji; rw [if_pos (by omega)]
      · rw [if_neg (by omega)]; exact f5 j (by omega)
    · rw [e, Array.getElem?_setIfInBounds, if_neg (by omega), Array.getElem?_push, if_neg (by omega)]
      exact f6 q hq
theorem mgF_top (s : State) (f : JFrame) (c k : ClassId) (i : Nat) : mgF (s.setTop f) c k i = (mgF s c k i).setTop f := by
  induction i with
  | zero => rfl
  | succ i ih => simp only [mgF, ih, State.heap_setTop, State.pushCell_setTop, State.setCell_setTop]
section MG
variable {E : CtlPost} {e : Env} {d : Bool} {acts : List Action} {s : State}
/-- the machine's newArray, of default values -/
theorem mg_new {c comp : ClassId} {k : Class} {ty : FieldType} {len : Nat} {v : Value} (hk : s.vm.classes[c]? = some k) (hkind : k.kind = .array comp ty) (hl : ¬ len > e.platform.arrayLengthLimit) (hh : ¬ len * componentBytes ty > e.platform.maxHeapBytes) (hf : fits ty v = true) (hv : v.isDefault = true) {Q : Addr → Pre} (h1 : s.heap.size < e.platform.maxCells) (h2 : s.slotsUsed + len ≤ e.platform.maxSlots)
    (hq : Q s.heap.size d acts (s.pushCell (arrV c len (fun _ => v)))) : wp (Jvm.newArray c len v) Q E e d acts s := by
  have hfit : ∀ i x, (Array.replicate len v)[i]? = some x → s.fitsSlot c .none i x = true := by
    intro i x hx
    have hx2 : x = v := by
      rw [Array.getElem?_replicate] at hx
      split at hx
      · exact (Option.some.inj hx).symm
      · cases hx
    subst hx2
    simp [State.fitsSlot, State.slotType?, hk, hkind, hf]
  have hact : allocActs (Array.replicate len v) s.heap.size acts = acts := by
    unfold allocActs
    rw [if_pos]
    rw [Array.all_replicate]
    split
    · rfl
    · exact hv
  rw [← arrV_new] at hq
  simp only [Jvm.newArray, Jvm.arrayFits, wp_bind', W.ask, W.ite, hl, if_false, wp_pure', W.theClass, hk, hkind, hh, W.alloc, W.stop, Option.some.injEq, exists_eq_left', Array.size_replicate, hact]
  rw [if_neg (by omega)]
  exact ⟨h1, h2, hfit, hq⟩
theorem mg_row {c cc : ClassId} {k : Class} (hk : s.vm.classes[c]? = some k) (hkind : k.kind = .array cc .int) (hl : ¬ 40 > e.platform.arrayLengthLimit) (hh : ¬ 160 > e.platform.maxHeapBytes) {Q : Addr → Pre} (h1 : s.heap.size < e.platform.maxCells) (h2 : s.slotsUsed + 40 ≤ e.platform.maxSlots) (hq : Q s.heap.size d acts (s.pushCell (mgI c))) : wp (multianewarray.make c [40]) Q E e d acts s := by
  rw [multianewarray.make]
  simp only [wp_bind', W.ite, show ¬ (40 : Int32) < 0 by decide, if_false, wp_pure', W.theClass, hk, hkind, Option.some.injEq, exists_eq_left']
  exact mg_new hk hkind hl hh rfl rfl h1 h2 hq
theorem mg_make {c k cc : ClassId} {kA kC : Class} (hA : s.vm.classes[c]? = some kA) (hkA : kA.kind = .array k (.array .int)) (hC : s.vm.classes[k]? = some kC) (hkC : kC.kind = .array cc .int) (hl4 : ¬ 4 > e.platform.arrayLengthLimit) (hh4 : ¬ 16 > e.platform.maxHeapBytes) (hl : ¬ 40 > e.platform.arrayLengthLimit) (hh : ¬ 160 > e.platform.maxHeapBytes)
    (h1 : s.heap.size + 5 ≤ e.platform.maxCells) (h2 : s.slotsUsed + 164 ≤ e.platform.maxSlots) {Q : Addr → Pre} (hq : ∀ d' acts', Q s.heap.size d' acts' (mgF s c k 4)) : wp (multianewarray.make c [4, 40]) Q E e d acts s := by
  have hfind : (([40] : List Int32).find? (· < 0)) = none := by decide
  rw [multianewarray.make]
  simp only [wp_bind', W.ite, show ¬ (4 : Int32) < 0 by decide, if_false, wp_pure', W.theClass, hA, hkA, Option.some.injEq, exists_eq_left']
  refine mg_new hA hkA hl4 hh4 rfl rfl (by omega) (by show s.slotsUsed + 4 ≤ _; omega) ?_
  simp only [hfind]
  rw [ite_self, wp_bind', Std.Legacy.Range.forIn_eq_forIn_range']
  show wp (forIn (List.range' 0 4 1) PUnit.unit _) _ E e d acts (mgF s c k 0)
  refine wp_forIn_inv (fun rest s' => ∃ i, i ≤ 4 ∧ rest = List.range' i (4 - i) ∧ s' = mgF s c k i) _ _ ⟨0, by omega, rfl, rfl⟩ ?_ ?_
  · rintro x rest s' d' acts' Q' ⟨i, hi, hl', rfl⟩ hnext
    have hlt : i < 4 := by
      rcases Nat.lt_or_ge i 4 with q | q
      · exact q
      · rw [show 4 - i = 0 by omega] at hl'; cases hl'
    rw [show 4 - i = (4 - (i + 1)) + 1 by omega, List.range'_succ] at hl'
    obtain ⟨rfl, rfl⟩ := List.cons.inj hl'
    obtain ⟨f1, f2, f3, f4, -, -⟩ := mgF_facts s c k x
    simp only [wp_bind']
    refine mg_row (by rw [f3]; exact hC) hkC hl hh (by rw [f1]; omega) (by rw [f4]; omega) ?_
    simp only [wp_bind', W.writeLoc, wp_pure']
    refine ⟨mgO c s.heap.size x, ?_, (by intro q; cases q), ?_, ?_, hnext _ _ _ ⟨x + 1, hlt, rfl, ?_⟩⟩
    · show ((mgF s c k x).heap.push _)[s.heap.size]? = _
      rw [Array.getElem?_push, if_neg (by omega)]; exact f2
    · show x < (arrV c 4 _).slots.size
      rw [arrV_size]; exact hlt
    · show State.fitsSlot _ c .none x _ = true
      simp [State.fitsSlot, State.slotType?, f3, hA, hkA, fits]
    · rw [f1]; rfl
  · rintro s' d' acts' ⟨i, hi, hl', rfl⟩
    have hi4 : i = 4 := by
      rcases Nat.lt_or_ge i 4 with q | q
      · rw [show 4 - i = (4 - (i + 1)) + 1 by omega, List.range'_succ] at hl'; cases hl'
      · omega
    subst hi4
    simp only [wp_pure']
    exact hq _ _
end MG
section MGS
variable {p : Program} {l : Launch} {e : Env} {R : Room} {s : State} {m : MethodId} {args : Array Value} {below : List Frame} {meth : Method} {c : Code} {T : State} {H : Heap} {locs : List Loc} {cells slots : Nat} {Q : State → Prop}
theorem mg_stand (X : Stand p l e R s m args below meth c T locs cells slots) (cA k : ClassId) (i : Nat) : Stand p l e R s m args below meth c (mgF T cA k i) (locs ++ (List.range i).map fun j => ⟨T.heap.size, j⟩) (cells + 1 + i) (slots + 4 + i * 40) := by
  induction i with
  | zero =>
    have h := X.pushed (mgO cA T.heap.size 0)
    have e1 : (mgO cA T.heap.size 0).slots.size = 4 := by unfold mgO; rw [arrV_size]
    rw [e1] at h
    simpa [mgF] using h
  | succ i ih =>
    obtain ⟨f1, f2, -, -, -, -⟩ := mgF_facts T cA k i
    have hc : ((mgF T cA k i).pushCell (mgI k)).heap[T.heap.size]? = some (mgO cA T.heap.size i) := by
      show ((mgF T cA k i).heap.push _)[T.heap.size]? = _
      rw [Array.getElem?_push, if_neg (by omega)]; exact f2
    have h := (ih.pushed (mgI k)).stored hc i (.ref (T.heap.size + 1 + i))
    have e1 : (mgI k).slots.size = 40 := by unfold mgI; rw [arrV_size]
    rw [e1] at h
    rw [List.range_succ, List.map_append, ← List.append_assoc, show slots + 4 + (i + 1) * 40 = slots + 4 + i * 40 + 40 by omega]
    exact h
theorem W_multi {cc : ByteArray} (hexec : p.tables.exec = Jvm.exec) (hb : c.code = cc) {own : String} {index : Nat} (hown : s.vm.findClass own = some m.cls) (hclink : (Cond.classLink own index "[[I").before args s = true) (hover : (Cond.arrayOver (.array .int)).before #[] s = true) (harr : (Cond.arrayClass .int).before args s = true)
    {g : JFrame} (hg : g.method = m) (hdg : decode cc g.pc = .ok (.multianewarray index 2, 4)) {rest : List Value} (hstack : g.stack = .int 40 :: .int 4 :: rest) (hcells : cells + 5 ≤ R.cells) (hslots : slots + 164 ≤ R.slots)
    (kk : ∀ (H1 : Heap) (cA k : ClassId), s.vm.findClass "[[I" = some cA → s.vm.findClass "[I" = some k → H1.size = H.size + 5 → H1[H.size]? = some (mgO cA H.size 4) → (∀ j, j < 4 → H1[H.size + 1 + j]? = some (mgI k)) → (∀ q, q < H.size → H1[q]? = H[q]?) →
      W p l e R s m args below meth c H1 (locs ++ (List.range 4).map fun j => ⟨H.size, j⟩) (cells + 5) (slots + 164) Q { g with pc := g.pc + 4, stack := .ref H.size :: rest }) : W p l e R s m args below meth c H locs cells slots Q g := by
  intro T hT X
  subst hT; subst hb; subst hg
  have hpl : e.platform.magicAccessors = ({} : Platform).magicAccessors := by rw [X.admits.platform]
  obtain ⟨comp, cA, kA, hcomp, -, hkA, hkindA, hnameA⟩ := arrayOverA_spec hover
  obtain ⟨comp', kC, cc', hcomp', hkC, hkindC⟩ := Cond.arrayClass_spec harr
  have ec : comp' = comp := Option.some.inj (hcomp'.symm.trans hcomp)
  subst ec
  obtain ⟨c0, hfc0, hcl⟩ := Cond.classLink_spec hown hclink e.platform hpl
  have e0 : c0 = cA := Option.some.inj (hfc0.symm.trans hnameA)
  subst e0
  obtain ⟨hg₁, hwarm₁, hready₁⟩ := State.classEntry (e := e) X.warmed hcl
  generalize T.vm.noted g.method.cls index (.cls c0) = vm₁ at hg₁ hwarm₁ hready₁
  have hal : s.vm.Alike vm₁ := hwarm₁.alike
  obtain ⟨kA₁, hkA₁, heA⟩ := hal.2.2 _ _ hkA
  obtain ⟨kC₁, hkC₁, heC⟩ := hal.2.2 _ _ hkC
  have hkindA₁ : kA₁.kind = .array comp' (.array .int) := by rw [heA]; exact hkindA
  have hkindC₁ : kC₁.kind = .array cc' .int := by rw [heC]; exact hkindC
  have XF := mg_stand (X.noted hwarm₁) c0 comp' 4
  obtain ⟨hr1, hr2⟩ := X.roomAbove hcells hslots
  obtain ⟨f1, f2, f3, f4, f5, f6⟩ := mgF_facts (T.setVm vm₁) c0 comp' 4
  obtain ⟨t', a1, b1⟩ := kk (mgF (T.setVm vm₁) c0 comp' 4).heap c0 comp' hnameA hcomp f1 f2 f5 f6 (mgF (T.setVm vm₁) c0 comp' 4) rfl XF
  refine ⟨t', ?_, b1⟩
  have hlim := Launch.admits_arrayLengthLimit X.admits
  have hmax := Launch.admits_maxHeapBytes X.admits
  jvm_step X.here [hexec, hdg]
  simp only [multianewarray.sem, wp_bind', W.resolveClassAt_links (State.method?_setTop g X.here.top) hg₁]
  rw [W.popN, if_neg (by decide)]
  refine ⟨g, State.topJava?_setTop' (s := T.setVm vm₁) g X.here.top, [.int 4, .int 40], rest, rfl, hstack, ?_⟩
  simp only [List.mapM_cons, List.mapM_nil, wp_bind', wp_pure']
  refine mg_make (kA := kA₁) (kC := kC₁) hkA₁ hkindA₁ hkC₁ hkindC₁ (by rw [hlim]; omega) (by rw [hmax]; omega) (by rw [hlim]; omega) (by rw [hmax]; omega) (by show T.heap.size + 5 ≤ _; omega) (by show T.slotsUsed + 164 ≤ _; omega) (fun d' acts' => ?_)
  have eS : ((T.setTop g).setVm vm₁).setTop { g with stack := rest } = (T.setVm vm₁).setTop { g with stack := rest } := by
    show ((T.setVm vm₁).setTop g).setTop _ = _
    rw [State.setTop_setTop]
  rw [eS, mgF_top]
  simp only [wp_bind', W.mark, W.pushRef, State.topJava?_setTop' _ XF.here.top, Option.some.injEq, exists_eq_left', State.setTop_setTop, State.heap_setTop]
  intro acts
  simp [jvm, XF.here.top]
  exact a1
end MGS
