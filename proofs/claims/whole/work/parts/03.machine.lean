/-! An abstract machine over the kit: cells by numbers, ints apart from references; one step of the plain instructions is a function. -/
abbrev xG : Type := va_G × (Nat → ClassId) × Nat × (Nat → Nat) × Heap
/-- where a cell stands: new ones behind the heap's old end, old ones (from 1000000 on) by a table -/
def xmu (G : xG) (r : Nat) : Nat := if r < 1000000 then G.2.2.1 + r else G.2.2.2.1 (r - 1000000)
def xv (G : xG) : Value → Value
  | .ref r => .ref (xmu G r)
  | v => v
def xA (G : xG) : Nat → Prop := fun q => G.2.2.1 ≤ q
/-- the types of the fields, by classes -/
def xty (c : Nat) : Nat → FieldType := match c with
  | 0 => xt0 | 1 => xt1 | 2 => xt2 | 3 => xt3 | 4 => xt4 | 5 => xt5 | 6 => xt6 | 7 => xt7 | 8 => xt8 | 9 => xt9 | 10 => xt10 | 11 => xt11 | _ => xt12
def xN (c : Nat) : Nat := match c with
  | 7 => 8 | 8 => 13 | 9 => 8 | 10 => 8 | 11 => 10 | 12 => 27 | _ => 7
def xfv (G : xG) (I : Nat → Nat → Int32) (P : Nat → Nat → Option Nat) (c r j : Nat) : Value := match xty c j with
  | .int => .int (I r j)
  | .boolean => .int (I r j)
  | _ => va_rf ((P r j).map (xmu G))
/-- a cell, by its kind: 0 to 12 an object of that class, 13 int[], 14 boolean[], else an array of references -/
def xE (G : xG) (K : Nat → Nat × Nat) (I : Nat → Nat → Int32) (P : Nat → Nat → Option Nat) (r : Nat) : va_E :=
  if (K r).1 < 13 then .inr ((K r).1, (List.range (xN (K r).1)).map (xfv G I P (K r).1 r))
  else if (K r).1 < 15 then .inl (G.2.1 (K r).1, (K r).2, .inl (I r))
  else .inl (G.2.1 (K r).1, (K r).2, .inr (.inr (.inr (.inr (fun j => (P r j).map (xmu G))))))
def xL (G : xG) (n : Nat) (K : Nat → Nat × Nat) (I : Nat → Nat → Int32) (P : Nat → Nat → Option Nat) : va_W := (List.range n).map (fun r => (G.2.2.1 + r, xE G K I P r))
/-- an old int array, as far as it is known -/
def xOA (o : Option Cell) (w : Nat) (f : Nat → Int32) : Prop := ∃ cell : Cell, o = some cell ∧ cell.vm ≠ .unknown ∧ w ≤ cell.slots.size ∧ cell.slots.size.toInt32 = Int32.ofNat w ∧ ∀ q : Nat, q < w → cell.slots[q]? = some (.int (f q))
/-- the heap holds the cells; what was there before stands as it was; two old int arrays are known -/
def xR (G : xG) (n : Nat) (K : Nat → Nat × Nat) (I : Nat → Nat → Int32) (P : Nat → Nat → Option Nat) (H : Heap) : Prop :=
  H.size = G.2.2.1 + n ∧ va_P G.1 xCl (xL G n K I P) H ∧ (∀ q : Nat, q < G.2.2.1 → H[q]? = G.2.2.2.2[q]?) ∧ n < 1000000 ∧ G.2.2.2.2.size = G.2.2.1 ∧
  ∀ j : Nat, j < 2 → G.2.2.2.1 j < G.2.2.1 ∧ K (1000000 + j) = (13, (K (1000000 + j)).2) ∧ xOA (H[G.2.2.2.1 j]?) (K (1000000 + j)).2 (I (1000000 + j))
def xTys (G : xG) : List (ClassId × FieldType) := [(G.2.1 13, .int), (G.2.1 14, .boolean), (G.2.1 15, .object "HandOverHorse$Stroke"), (G.2.1 16, .object "HandOverHorse$Text"), (G.2.1 17, .array .int)]
/-- what the start's statics and constants are -/
def xZ (G : xG) (U : State) : Prop := va_Z "HandOverHorse" "MOST_OF_PART" "[I" (.ref (G.2.2.2.1 1)) (xA G) U G.2.2.2.2 ∧ va_Z "java/lang/String" "COMPACT_STRINGS" "Z" (.int 1) (xA G) U G.2.2.2.2 ∧
  vk_R "HandOverHorse$Text" 24 "" (G.2.2.2.1 2) U ∧ vk_R "HandOverHorse$Wall" 169 "cmkh" (G.2.2.2.1 3) U ∧ vk_R "HandOverHorse$Wall" 171 "wkc" (G.2.2.2.1 4) U ∧
  vk_S 2 [4, 3] [[99, 109, 107, 104], [119, 107, 99]] (fun i => G.2.2.2.1 (3 + i)) (fun i => G.2.2.2.1 (5 + i)) (xA G) U G.2.2.2.2
def xAA (U : State) : Prop := (Cond.arrayOver (.array .int)).before #[] U = true
def xOI (G : xG) (U : State) : Prop := ∀ j : Nat, j < 2 → ∃ cell : Cell, G.2.2.2.2[G.2.2.2.1 j]? = some cell ∧ U.isArrayOf cell .int
theorem xOI.moved {G : xG} {u U : State} (hvm : u.vm.Alike U.vm) (h : xOI G u) : xOI G U := fun j hj => by
  obtain ⟨c, h1, h2⟩ := h j hj
  exact ⟨c, h1, State.isArrayOf_alike hvm h2⟩
def xK (G : xG) (U : State) : Prop := va_K G.1 xCl (xTys G) U ∧ xZ G U ∧ va_AO "HandOverHorse$Stroke" U ∧ va_AO "HandOverHorse$Text" U ∧ xAA U ∧ xOI G U
theorem xZ.warm {G : xG} {s U : State} (hW : s.WarmedH U.vm) (h : xZ G s) : xZ G U :=
  ⟨h.1.moved hW.alike, h.2.1.moved hW.alike, h.2.2.1.warm hW, h.2.2.2.1.warm hW, h.2.2.2.2.1.warm hW, h.2.2.2.2.2.moved hW.alike⟩
theorem xZ.same {G : xG} {u U : State} (hv : U.vm = u.vm) (h : xZ G u) : xZ G U := by
  have ha : u.vm.Alike U.vm := by rw [hv]; exact Vm.Alike.refl _
  exact ⟨h.1.moved ha, h.2.1.moved ha, h.2.2.1.same hv, h.2.2.2.1.same hv, h.2.2.2.2.1.same hv, h.2.2.2.2.2.moved ha⟩
theorem xK.warm {G : xG} {s U : State} (hW : s.WarmedH U.vm) (h : xK G s) : xK G U :=
  ⟨h.1.moved hW.alike, h.2.1.warm hW, h.2.2.1.moved hW.alike, h.2.2.2.1.moved hW.alike, over_moved hW.alike h.2.2.2.2.1, h.2.2.2.2.2.moved hW.alike⟩
theorem xK.same {G : xG} {u U : State} (hv : U.vm = u.vm) (h : xK G u) : xK G U := by
  have ha : u.vm.Alike U.vm := by rw [hv]; exact Vm.Alike.refl _
  exact ⟨h.1.moved ha, h.2.1.same hv, h.2.2.1.moved ha, h.2.2.2.1.moved ha, over_moved ha h.2.2.2.2.1, h.2.2.2.2.2.moved ha⟩
/-! the programs -/
def xlook : List PE → Nat → Option (Instr × Nat × Nat × List (Int32 × Nat))
  | [], _ => none
  | e :: l, pc => bif Nat.beq e.1 pc then some e.2 else xlook l pc
def xlen : Instr → Nat
  | .bipush _ | .ldc _ | .iload _ | .istore _ | .aload _ | .astore _ | .lload _ | .lstore _ | .newarray _ => 2
  | .sipush _ | .ldc_w _ | .ldc2_w _ | .iinc _ _ | .ifCond _ _ | .if_icmp _ _ | .goto _ | .getfield _ | .putfield _ | .getstatic _ | .invokevirtual _ | .invokespecial _ | .invokestatic _ | .new _ | .anewarray _ | .ifnull _ | .ifnonnull _ | .if_acmp _ _ | .checkcast _ | .instanceof _ => 3
  | .multianewarray _ _ => 4
  | .tableswitch _ _ _ _ => 0
  | .lookupswitch _ _ => 0
  | _ => 1
def xtsOK (pc : Nat) : Int → List Int → List (Int32 × Nat) → Bool
  | _, [], [] => true
  | lo, o :: os, (k, t) :: cs => decide (k.toInt = lo) && (decide ((pc : Int) + o = (t : Int)) && xtsOK pc (lo + 1) os cs)
  | _, _, _ => false
def xlsOK (pc : Nat) : List (Int × Int) → List (Int32 × Nat) → Bool
  | [], [] => true
  | (k', o) :: ps, (k, t) :: cs => decide (k.toInt = k') && (decide ((pc : Int) + o = (t : Int)) && xlsOK pc ps cs)
  | _, _ => false
def xopOK (own : String) (pc : Nat) (ins : Instr) (a : Nat) (cs : List (Int32 × Nat)) : Bool := match ins with
  | .iconst n => match cs with | (v, _) :: _ => decide (Int32.ofInt n = v) | _ => false
  | .bipush n => match cs with | (v, _) :: _ => decide ((Int8.ofInt n).toInt32 = v) | _ => false
  | .sipush n => match cs with | (v, _) :: _ => decide ((Int16.ofInt n).toInt32 = v) | _ => false
  | .lconst n => decide ((n : Nat) = a)
  | .ldc i => match cs with | (v, _) :: _ => decide (lw_tbl[a]? = some (.constant own i v)) | _ => true
  | .ldc_w i => match cs with | (v, _) :: _ => decide (lw_tbl[a]? = some (.constant own i v)) | _ => true
  | .ldc2_w i => match cs with | (_, q) :: _ => decide (lw_tbl[q]? = some (.constantLong own i (Int64.ofNat a))) | _ => false
  | .iload i | .istore i | .aload i | .astore i | .lload i | .lstore i => decide (i = a)
  | .iload_n k | .istore_n k | .aload_n k | .astore_n k | .lload_n k | .lstore_n k => decide ((k : Nat) = a)
  | .iinc i n => match cs with | (v, _) :: _ => decide (i = a) && decide (Int32.ofInt n = v) | _ => false
  | .ifCond _ o | .if_icmp _ o | .goto o => decide ((pc : Int) + o = (a : Int))
  | .tableswitch d lo hi offs => decide ((pc : Int) + d = (a : Int)) && (decide (hi = lo + (offs.toList.length : Int) - 1) && xtsOK pc lo offs.toList cs)
  | .lookupswitch d ps => decide ((pc : Int) + d = (a : Int)) && ((ps.toList.zip (ps.toList.drop 1)).all (fun (a, next) => a.1 < next.1) && xlsOK pc ps.toList cs)
  | _ => true
def xpeOK (own : String) (cc : ByteArray) (e : PE) : Bool :=
  decide (decode cc e.1 = .ok (e.2.1, e.2.2.1 - e.1)) && (decide (e.1 < e.2.2.1) && ((decide (xlen e.2.1 = 0) || decide (e.2.2.1 = e.1 + xlen e.2.1)) && xopOK own e.1 e.2.1 e.2.2.2.1 e.2.2.2.2))
def xpOK (Y : MI) : Bool := Y.2.2.2.2.1.all (xpeOK Y.1.cls Y.2.1)
theorem xlook_mem {L : List PE} {pc : Nat} {e : Instr × Nat × Nat × List (Int32 × Nat)} (h : xlook L pc = some e) : (pc, e) ∈ L := by
  induction L with
  | nil => cases h
  | cons q L ih =>
    unfold xlook at h
    by_cases hb : Nat.beq q.1 pc = true
    · rw [hb] at h
      cases h
      have := Nat.eq_of_beq_eq_true hb
      subst this
      exact List.mem_cons_self
    · have hb' : Nat.beq q.1 pc = false := (Bool.not_eq_true _).mp hb
      rw [hb'] at h
      exact List.mem_cons_of_mem _ (ih h)
theorem xdec {Y : MI} (hY : xpOK Y = true) {pc nx a : Nat} {ins : Instr} {cs : List (Int32 × Nat)} (h : xlook Y.2.2.2.2.1 pc = some (ins, nx, a, cs)) :
    decode Y.2.1 pc = .ok (ins, nx - pc) ∧ pc < nx ∧ (xlen ins = 0 ∨ nx = pc + xlen ins) ∧ xopOK Y.1.cls pc ins a cs = true := by
  have h1 := List.all_eq_true.mp hY _ (xlook_mem h)
  simp only [xpeOK, Bool.and_eq_true, Bool.or_eq_true, decide_eq_true_eq] at h1
  exact h1
/-! the locals and the plain step -/
def xset : List Value → Nat → Value → List Value
  | [], _, _ => []
  | _ :: l, 0, v => v :: l
  | a :: l, n + 1, v => a :: xset l n v
def xget : List Value → Nat → Value
  | [], _ => .null
  | a :: _, 0 => a
  | _ :: l, n + 1 => xget l n
def xfree (lv : List Value) (i : Nat) : Bool := match i with
  | 0 => true
  | j + 1 => match xget lv j with
    | .long _ => false
    | .double _ => false
    | _ => true
def xtsw (x : Int32) : List (Int32 × Nat) → Nat → Nat
  | [], d => d
  | (k, t) :: r, d => if x = k then t else xtsw x r d
abbrev xO : Type := Option (Nat × List Value × List Value)
def xpush (nx : Nat) (lv : List Value) (cs : List (Int32 × Nat)) (st : List Value) : xO := match cs with
  | (v, _) :: _ => some (nx, lv, .int v :: st)
  | _ => none
def xbin (nx : Nat) (lv : List Value) (f : Int32 → Int32 → Int32) (st : List Value) : xO := match st with
  | .int y :: .int x :: r => some (nx, lv, .int (f x y) :: r)
  | _ => none
def xun (nx : Nat) (lv : List Value) (f : Int32 → Int32) (st : List Value) : xO := match st with
  | .int x :: r => some (nx, lv, .int (f x) :: r)
  | _ => none
def xlbin (nx : Nat) (lv : List Value) (f : Int64 → Int64 → Int64) (st : List Value) : xO := match st with
  | .long y :: .long x :: r => some (nx, lv, .long (f x y) :: r)
  | _ => none
def xlsh (nx : Nat) (lv : List Value) (f : Int64 → Int32 → Int64) (st : List Value) : xO := match st with
  | .int y :: .long x :: r => some (nx, lv, .long (f x y) :: r)
  | _ => none
def xildi (nx : Nat) (lv : List Value) (a : Nat) (st : List Value) : xO := match xget lv a with
  | .int x => some (nx, lv, .int x :: st)
  | _ => none
def xildl (nx : Nat) (lv : List Value) (a : Nat) (st : List Value) : xO := match xget lv a with
  | .long x => some (nx, lv, .long x :: st)
  | _ => none
def xilda (nx : Nat) (lv : List Value) (a : Nat) (st : List Value) : xO := match xget lv a with
  | .ref x => some (nx, lv, .ref x :: st)
  | _ => none
def xisti (nL nx : Nat) (lv : List Value) (a : Nat) (st : List Value) : xO := match st with
  | .int x :: r => bif Nat.blt a nL && xfree lv a then some (nx, xset lv a (.int x), r) else none
  | _ => none
def xista (nL nx : Nat) (lv : List Value) (a : Nat) (st : List Value) : xO := match st with
  | .ref x :: r => bif Nat.blt a nL && xfree lv a then some (nx, xset lv a (.ref x), r) else none
  | _ => none
def xistl (nL nx : Nat) (lv : List Value) (a : Nat) (st : List Value) : xO := match st with
  | .long x :: r => bif Nat.blt (a + 1) nL && xfree lv a then some (nx, xset (xset lv a (.long x)) (a + 1) .null, r) else none
  | _ => none
def xinc (nL nx : Nat) (lv : List Value) (a : Nat) (cs : List (Int32 × Nat)) (st : List Value) : xO := match cs with
  | (v, _) :: _ => match xget lv a with
    | .int x => bif Nat.blt a nL && xfree lv a then some (nx, xset lv a (.int (x + v)), st) else none
    | _ => none
  | _ => none
def xdup (nx : Nat) (lv : List Value) (st : List Value) : xO := match st with
  | .int x :: r => some (nx, lv, .int x :: .int x :: r)
  | .ref x :: r => some (nx, lv, .ref x :: .ref x :: r)
  | _ => none
def xdup2 (nx : Nat) (lv : List Value) (st : List Value) : xO := match st with
  | .int y :: .int x :: r => some (nx, lv, .int y :: .int x :: .int y :: .int x :: r)
  | .int y :: .ref x :: r => some (nx, lv, .int y :: .ref x :: .int y :: .ref x :: r)
  | _ => none
def xpop (nx : Nat) (lv : List Value) (st : List Value) : xO := match st with
  | .int _ :: r => some (nx, lv, r)
  | .ref _ :: r => some (nx, lv, r)
  | _ => none
def xif (nx a : Nat) (lv : List Value) (cd : ClassFile.Cond) (st : List Value) : xO := match st with
  | .int x :: r => match cd with
    | .eq => some (if x = 0 then a else nx, lv, r)
    | .ne => some (if x = 0 then nx else a, lv, r)
    | .lt => some (if x < 0 then a else nx, lv, r)
    | .ge => some (if 0 ≤ x then a else nx, lv, r)
    | .gt => some (if 0 < x then a else nx, lv, r)
    | .le => some (if x ≤ 0 then a else nx, lv, r)
  | _ => none
def xicmp (nx a : Nat) (lv : List Value) (cd : ClassFile.Cond) (st : List Value) : xO := match st with
  | .int y :: .int x :: r => match cd with
    | .eq => some (if x = y then a else nx, lv, r)
    | .ne => some (if x = y then nx else a, lv, r)
    | .lt => some (if x < y then a else nx, lv, r)
    | .ge => some (if y ≤ x then a else nx, lv, r)
    | .gt => some (if y < x then a else nx, lv, r)
    | .le => some (if x ≤ y then a else nx, lv, r)
  | _ => none
def xsw (a : Nat) (cs : List (Int32 × Nat)) (lv : List Value) (st : List Value) : xO := match st with
  | .int x :: r => some (xtsw x cs a, lv, r)
  | _ => none
def xins (nL : Nat) (ins : Instr) (nx a : Nat) (cs : List (Int32 × Nat)) (lv st : List Value) : xO := match ins with
  | .iconst _ => xpush nx lv cs st
  | .bipush _ => xpush nx lv cs st
  | .sipush _ => xpush nx lv cs st
  | .ldc _ => xpush nx lv cs st
  | .ldc_w _ => xpush nx lv cs st
  | .lconst _ => some (nx, lv, .long (Int64.ofNat a) :: st)
  | .ldc2_w _ => some (nx, lv, .long (Int64.ofNat a) :: st)
  | .iload _ => xildi nx lv a st
  | .iload_n _ => xildi nx lv a st
  | .lload _ => xildl nx lv a st
  | .lload_n _ => xildl nx lv a st
  | .aload _ => xilda nx lv a st
  | .aload_n _ => xilda nx lv a st
  | .istore _ => xisti nL nx lv a st
  | .istore_n _ => xisti nL nx lv a st
  | .lstore _ => xistl nL nx lv a st
  | .astore _ => xista nL nx lv a st
  | .astore_n _ => xista nL nx lv a st
  | .iinc _ _ => xinc nL nx lv a cs st
  | .iadd => xbin nx lv (fun x y => x + y) st
  | .isub => xbin nx lv (fun x y => x - y) st
  | .imul => xbin nx lv (fun x y => x * y) st
  | .iand => xbin nx lv (fun x y => x &&& y) st
  | .ior => xbin nx lv (fun x y => x ||| y) st
  | .ixor => xbin nx lv (fun x y => x ^^^ y) st
  | .ishl => xbin nx lv (fun x y => x <<< (y &&& 31)) st
  | .ishr => xbin nx lv (fun x y => x >>> (y &&& 31)) st
  | .iushr => xbin nx lv (fun x y => (x.toUInt32 >>> (y.toUInt32 &&& Int32.toUInt32 31)).toInt32) st
  | .ineg => xun nx lv (fun x => -x) st
  | .i2b => xun nx lv (fun x => x.toInt8.toInt32) st
  | .i2s => xun nx lv (fun x => x.toInt16.toInt32) st
  | .i2c => xun nx lv (fun x => (x.toUInt32 % 65536).toInt32) st
  | .i2l => match st with | .int x :: r => some (nx, lv, .long x.toInt64 :: r) | _ => none
  | .l2i => match st with | .long x :: r => some (nx, lv, .int x.toInt32 :: r) | _ => none
  | .land => xlbin nx lv (fun x y => x &&& y) st
  | .lor => xlbin nx lv (fun x y => x ||| y) st
  | .lshl => xlsh nx lv (fun x y => x <<< (y.toInt64 &&& 63)) st
  | .lshr => xlsh nx lv (fun x y => x >>> (y.toInt64 &&& 63)) st
  | .lushr => xlsh nx lv (fun x y => (x.toUInt64 >>> (y.toInt64.toUInt64 &&& Int64.toUInt64 63)).toInt64) st
  | .lcmp => match st with | .long y :: .long x :: r => some (nx, lv, .int (lg_cmp x y) :: r) | _ => none
  | .dup => xdup nx lv st
  | .dup2 => xdup2 nx lv st
  | .pop => xpop nx lv st
  | .ifCond cd _ => xif nx a lv cd st
  | .if_icmp cd _ => xicmp nx a lv cd st
  | .goto _ => some (a, lv, st)
  | .tableswitch _ _ _ _ => xsw a cs lv st
  | .lookupswitch _ _ => xsw a cs lv st
  | _ => none
def xstep (Y : MI) (pc : Nat) (lv st : List Value) : xO := match xlook Y.2.2.2.2.1 pc with
  | some (ins, nx, a, cs) => xins Y.2.2.1 ins nx a cs lv st
  | none => none
/-! what the machine's locals hold -/
def xlv (G : xG) (ls : Array Slot) (nL : Nat) (lv : List Value) : Prop := ls.size = nL ∧ lv_wf ls ∧ ∀ i : Nat, xget lv i ≠ .null → ls[i]? = some (.val (xv G (xget lv i)))
theorem xget_set {lv : List Value} {a i : Nat} {v : Value} : xget (xset lv a v) i = if i = a ∧ a < lv.length then v else xget lv i := by
  induction lv generalizing a i with
  | nil => simp [xset, xget]
  | cons b lv ih =>
    cases a with
    | zero =>
      cases i with
      | zero => simp [xset, xget]
      | succ i => simp [xset, xget]
    | succ a =>
      cases i with
      | zero => simp [xset, xget]
      | succ i => simp [xset, xget, ih]
theorem xget_lt {lv : List Value} {i : Nat} (h : xget lv i ≠ .null) : i < lv.length := by
  induction lv generalizing i with
  | nil => exact absurd rfl h
  | cons b lv ih =>
    cases i with
    | zero => simp
    | succ i => have := ih (i := i) h; simp; omega
def xpl (G : xG) (lv : List Value) : List (Nat × Value) := ((List.range lv.length).filter (fun i => decide (xget lv i ≠ .null))).map (fun i => (i, xv G (xget lv i)))
theorem xpl_mem {G : xG} {lv : List Value} {q : Nat × Value} : q ∈ xpl G lv ↔ ∃ i, xget lv i ≠ .null ∧ q = (i, xv G (xget lv i)) := by
  unfold xpl
  rw [List.mem_map]
  constructor
  · rintro ⟨i, hi, rfl⟩
    have h2 := (List.mem_filter.mp hi).2
    exact ⟨i, by simpa using h2, rfl⟩
  · rintro ⟨i, hi, rfl⟩
    exact ⟨i, List.mem_filter.mpr ⟨List.mem_range.mpr (xget_lt hi), by simpa using hi⟩, rfl⟩
theorem xlv.has {G : xG} {ls : Array Slot} {nL : Nat} {lv : List Value} (h : xlv G ls nL lv) : lv_has ls nL (xpl G lv) := by
  refine ⟨h.1, h.2.1, fun q hq => ?_⟩
  obtain ⟨i, hi, rfl⟩ := xpl_mem.mp hq
  exact h.2.2 i hi
theorem xv_cat (G : xG) (v : Value) : (xv G v).category = v.category := by cases v <;> rfl
theorem xlv.put1 {G : xG} {ls : Array Slot} {nL a : Nat} {lv : List Value} {v : Value} (hf : xfree lv a = true) (h : lv_has ls nL ((a, xv G v) :: (xpl G lv).filter (fun q => !(q.1 == a) && !(q.1 + 1 == a && q.2.category == 2)))) : xlv G ls nL (xset lv a v) := by
  refine ⟨h.1, h.2.1, fun i hi => ?_⟩
  rw [xget_set] at hi ⊢
  by_cases hc : i = a ∧ a < lv.length
  · rw [if_pos hc] at hi ⊢
    rw [hc.1]
    exact h.2.2 _ List.mem_cons_self
  · rw [if_neg hc] at hi ⊢
    have hlt := xget_lt hi
    have hne : i ≠ a := fun e => hc ⟨e, by omega⟩
    refine h.2.2 (i, xv G (xget lv i)) (List.mem_cons_of_mem _ (List.mem_filter.mpr ⟨xpl_mem.mpr ⟨i, hi, rfl⟩, ?_⟩))
    have h2 : ¬ (i + 1 = a ∧ (xv G (xget lv i)).category = 2) := by
      rintro ⟨rfl, h3⟩
      rw [xv_cat] at h3
      simp only [xfree] at hf
      cases hx : xget lv i <;> rw [hx] at h3 hf <;> simp [Value.category] at h3 hf
    simp only [Bool.and_eq_true, Bool.not_eq_true', beq_eq_false_iff_ne, ne_eq, Bool.and_eq_false_iff]
    refine ⟨hne, ?_⟩
    by_cases h4 : i + 1 = a
    · exact Or.inr (fun h5 => h2 ⟨h4, h5⟩)
    · exact Or.inl h4
theorem xlv.put2 {G : xG} {ls : Array Slot} {nL a : Nat} {lv : List Value} {v : Value} (hf : xfree lv a = true) (h : lv_has ls nL ((a, xv G v) :: (xpl G lv).filter (fun q => !(q.1 == a) && (!(q.1 == a + 1) && !(q.1 + 1 == a && q.2.category == 2))))) : xlv G ls nL (xset (xset lv a v) (a + 1) .null) := by
  refine ⟨h.1, h.2.1, fun i hi => ?_⟩
  rw [xget_set] at hi ⊢
  by_cases hc1 : i = a + 1 ∧ a + 1 < (xset lv a v).length
  · rw [if_pos hc1] at hi
    exact absurd rfl hi
  rw [if_neg hc1] at hi ⊢
  have hl1 := xget_lt hi
  rw [xget_set] at hi ⊢
  by_cases hc : i = a ∧ a < lv.length
  · rw [if_pos hc] at hi ⊢
    rw [hc.1]
    exact h.2.2 _ List.mem_cons_self
  · rw [if_neg hc] at hi ⊢
    have hlt := xget_lt hi
    have hne : i ≠ a := fun e => hc ⟨e, by omega⟩
    have hne1 : i ≠ a + 1 := fun e => hc1 ⟨e, by omega⟩
    refine h.2.2 (i, xv G (xget lv i)) (List.mem_cons_of_mem _ (List.mem_filter.mpr ⟨xpl_mem.mpr ⟨i, hi, rfl⟩, ?_⟩))
    have h2 : ¬ (i + 1 = a ∧ (xv G (xget lv i)).category = 2) := by
      rintro ⟨rfl, h3⟩
      rw [xv_cat] at h3
      simp only [xfree] at hf
      cases hx : xget lv i <;> rw [hx] at h3 hf <;> simp [Value.category] at h3 hf
    simp only [Bool.and_eq_true, Bool.not_eq_true', beq_eq_false_iff_ne, ne_eq, Bool.and_eq_false_iff]
    refine ⟨hne, hne1, ?_⟩
    by_cases h4 : i + 1 = a
    · exact Or.inr (fun h5 => h2 ⟨h4, h5⟩)
    · exact Or.inl h4
/-! switches -/
theorem xts_spec {pc : Nat} {x : Int32} {d : Nat} : ∀ (os : List Int) (lo : Int) (cs : List (Int32 × Nat)), xtsOK pc lo os cs = true →
    ((x.toInt < lo ∨ lo + (os.length : Int) - 1 < x.toInt) ∧ xtsw x cs d = d) ∨ (¬ x.toInt < lo ∧ ¬ lo + (os.length : Int) - 1 < x.toInt ∧ ∃ o, os[(x.toInt - lo).toNat]? = some o ∧ (pc : Int) + o = (xtsw x cs d : Int)) := by
  intro os
  induction os with
  | nil =>
    intro lo cs h
    cases cs with
    | nil => exact Or.inl ⟨by simp; omega, rfl⟩
    | cons c cs => simp [xtsOK] at h
  | cons o os ih =>
    intro lo cs h
    cases cs with
    | nil => simp [xtsOK] at h
    | cons c cs =>
      obtain ⟨k, t⟩ := c
      simp only [xtsOK, Bool.and_eq_true, decide_eq_true_eq] at h
      obtain ⟨hk, ht, hr⟩ := h
      by_cases hx : x = k
      · subst hx
        refine Or.inr ⟨by omega, by simp only [List.length_cons]; omega, o, ?_, ?_⟩
        · rw [hk]; simp
        · simp [xtsw, ht]
      · have hne : x.toInt ≠ lo := fun e => hx (Int32.toInt_inj.mp (e.trans hk.symm))
        have hs : xtsw x ((k, t) :: cs) d = xtsw x cs d := by simp [xtsw, hx]
        rw [hs]
        rcases ih (lo + 1) cs hr with ⟨h1, h2⟩ | ⟨h1, h2, o', h3, h4⟩
        · refine Or.inl ⟨?_, h2⟩
          simp only [List.length_cons]
          omega
        · refine Or.inr ⟨by omega, by simp only [List.length_cons]; omega, o', ?_, h4⟩
          have : (x.toInt - lo).toNat = (x.toInt - (lo + 1)).toNat + 1 := by omega
          rw [this]
          simpa using h3
theorem xls_spec {pc : Nat} {x : Int32} {d : Int} {a : Nat} (ha : (pc : Int) + d = (a : Int)) : ∀ (ps : List (Int × Int)) (cs : List (Int32 × Nat)), xlsOK pc ps cs = true → (pc : Int) + Op.lookupswitch.offset ps d x.toInt = (xtsw x cs a : Int) := by
  intro ps
  induction ps with
  | nil =>
    intro cs h
    cases cs with
    | nil => simpa [xtsw, Op.lookupswitch.offset] using ha
    | cons c cs => simp [xlsOK] at h
  | cons q ps ih =>
    intro cs h
    obtain ⟨k', o⟩ := q
    cases cs with
    | nil => simp [xlsOK] at h
    | cons c cs =>
      obtain ⟨k, t⟩ := c
      simp only [xlsOK, Bool.and_eq_true, decide_eq_true_eq] at h
      obtain ⟨hk, ht, hr⟩ := h
      by_cases hx : x = k
      · subst hx
        rw [Op.lookupswitch.offset_cons, if_pos (by simpa using hk.symm)]
        simp [xtsw, ht]
      · rw [lv_osw hx hk, ih cs hr]
        simp [xtsw, hx]
