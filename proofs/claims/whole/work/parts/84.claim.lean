/-! THE CLAIM OUT OF ONE WALK OF THE LAW'S BODY. Your part is whole_start (and what it stands on); all else here is the same for every law, but numbers. -/
def R_law : String := "HandOverHorseLaw"
def lw_P (b : Addr) (xs : List Int32) (args : Array Value) (s : State) : Prop := args = #[.ref b] ∧ s.IntsAt b xs ∧ xs.length ≤ 384 ∧ (Jvm.Cond.and given_1 narrow_1).before args s = true
def lw_Q (_ : Array Value) (s : State) (o : Outcome) (t : State) : Prop := o = .returned (some (.int 1)) ∧ Framed s o t [] 600000 7302250
def lw_Z (below : List Frame) (a : Array Value) (s : State) : State → Prop := fun t => ∃ o, t.status = .running ∧ Ended t below o ∧ lw_Q a s o t
/-- the law's own end, with 1 on the stack, nothing written that was there before, its room as the claim has it -/
theorem lw_ret {p : Program} {l : Launch} {e : Env} {s : State} {m : MethodId} {below : List Frame} {meth : Method} {c : Code} {b : Nat} (hx : p.tables.exec = Jvm.exec) (hb : c.code = code) (hr : meth.sig.returnType = ret) (hlocks : meth.locks = false) {pc : Nat} {H : Heap} {ls : Array Slot} (hdg : decode code pc = .ok (.ireturn, 1)) : W p l e room_1 s m #[Value.ref b] below meth c H [] 600000 7302250 (lw_Z below #[Value.ref b] s) (F0 m pc ls [.int 1]) := by
  intro T hT X
  obtain ⟨fs, hret, hrun, hended, hW, hframe⟩ := X.leave (v := some (.int 1)) (hlocks := hlocks) (fun h => by rw [hr] at h; cases h)
  have hmeth' : T.vm.method? m = some meth := X.method'
  refine ⟨T.setFrames fs, ?_, .returned (some (.int 1)), hrun, hended, rfl, ⟨_, rfl⟩, hW, hframe⟩
  jvm_step X.here [X.here.top, hx, hb, hdg, hmeth', hr, ret, narrow_b1]
  (try refine ⟨rfl, ?_⟩); (try refine ⟨rfl, ?_⟩)
  first | (intro acts; rw [hret _ acts rfl rfl rfl]) | rw [hret _ _ rfl rfl rfl]
  exact Steps.refl _
/-- what holds at the law's entry: the machine, the code, the tables' words (any of lw_tbl by 'hts w (by decide +kernel)'), the script of L ints xs at the cell b, what the Statement gives of the start (any of its parts by flat_of_before) -/
def lw_At (p : Program) (s : State) (m : MethodId) (meth : Method) (c : Code) (b L : Nat) (xs : Nat → Int32) : Prop :=
  p.tables.exec = Jvm.exec ∧ c.code = code ∧ meth.sig.returnType = ret ∧ c.maxLocals = 4 ∧ s.vm.findClass R_law = some m.cls ∧ (∀ w ∈ lw_tbl, w.before #[Value.ref b] s = true) ∧ va_X b L xs s s.heap ∧ b < s.heap.size ∧ meth.locks = false ∧ (Jvm.Cond.and given_1 narrow_1).before #[Value.ref b] s = true
theorem xinst {c : Nat} (h : c < 13) : Cond.instantiable (xcn c) (xN c) ∈ xw := by
  rcases (show c = 0 ∨ c = 1 ∨ c = 2 ∨ c = 3 ∨ c = 4 ∨ c = 5 ∨ c = 6 ∨ c = 7 ∨ c = 8 ∨ c = 9 ∨ c = 10 ∨ c = 11 ∨ c = 12 by omega) with rfl | rfl | rfl | rfl | rfl | rfl | rfl | rfl | rfl | rfl | rfl | rfl | rfl
  · exact l_Wall_9.2.1
  · exact l_Wall_99.2.1
  · exact l_Wall_102.2.1
  · exact l_Wall_105.2.1
  · exact l_Wall_108.2.1
  · exact l_Wall_111.2.1
  · exact l_Wall_114.2.1
  · exact l_Wall_31.2.1
  · exact l_H_7.2.1
  · exact l_H_19.2.1
  · exact l_H_26.2.1
  · exact l_Law_7.2.1
  · exact l_Law_10.2.1
def mopF (j : Nat) : Int32 := ([-1, -1, 35, 99, 9999, 9999, 99] : List Int32).getD j 0
def oldI (xs : Nat → Int32) : HI := fun r => if r = 1000000 then xs else if r = 1000001 then mopF else z0
def gArr (a13 a14 a15 a16 a17 : ClassId) : Nat → ClassId := fun c => if c = 13 then a13 else if c = 14 then a14 else if c = 15 then a15 else if c = 16 then a16 else a17
def gT (b a1 a2 : Nat) (adK adV : Nat → Nat) : Nat → Nat := fun j => if j = 0 then b else if j = 1 then a1 else if j = 2 then a2 else if j < 5 then adK (j - 3) else adV (j - 5)
def gG (fc : Nat → ClassId × (Nat → Nat)) (A : Nat → ClassId) (T : Nat → Nat) (H : Heap) : xG := ((fun c => (fc c).1, fun c => (fc c).2), A, H.size, T, H)
def sxT (i : Nat) : Term := if i = 0 then .string "HandOverHorse$Wall" 169 else .string "HandOverHorse$Wall" 171
theorem lw_at {w : Cond} (i : Nat) (h : lw_tbl[i]? = some w) : w ∈ lw_tbl := List.mem_of_getElem? h
theorem two_i {i : Nat} (h : i < 2) : i = 0 ∨ i = 1 := by omega
/-- the classes' and arrays' numbers -/
theorem st_K {s : State} {av : Array Value} {fc : Nat → ClassId × (Nat → Nat)} {T : Nat → Nat} (hts : ∀ w ∈ lw_tbl, w.before av s = true) (hfc : ∀ c, c < 13 → u_Kn s (xcn c) (xTc c) (xN c) (fc c).1 (fc c).2) : ∃ A : Nat → ClassId, va_K (gG fc A T s.heap).1 xCl (xTys (gG fc A T s.heap)) s := by
  obtain ⟨a13, k13, c13, n13, g13, d13⟩ := Cond.arrayClass_spec (type := .int) (hts _ (lw_at 193 (by decide +kernel)))
  obtain ⟨a14, k14, c14, n14, g14, d14⟩ := Cond.arrayClass_spec (type := .boolean) (hts _ (lw_at 286 (by decide +kernel)))
  obtain ⟨c15, a15, k15, e15, -, g15, d15, n15⟩ := Cond.arrayOver_spec (n := "HandOverHorse$Stroke") (hts _ (lw_at 111 (by decide +kernel)))
  obtain ⟨c16, a16, k16, e16, -, g16, d16, n16⟩ := Cond.arrayOver_spec (n := "HandOverHorse$Text") (hts _ (lw_at 161 (by decide +kernel)))
  obtain ⟨c17, a17, k17, e17, -, g17, d17, n17⟩ := arrayOverA_spec (t := .int) (hts _ (lw_at 323 (by decide +kernel)))
  refine ⟨gArr a13 a14 a15 a16 a17, fun c q hq => ?_, fun k q hk => ?_⟩
  · have hc : c < 13 := (List.getElem?_eq_some_iff.mp hq).1
    obtain rfl : (xcn c, xTc c, xN c) = q := Option.some.inj ((xCl_get hc).symm.trans hq)
    exact hfc c hc
  · match k, hk with
    | 0, hk =>
      have hk' : some (a13, FieldType.int) = some q := hk
      cases hk'
      exact ⟨fun n z => ⟨(by intro x h; cases h), k13, g13, c13, d13⟩, n13⟩
    | 1, hk =>
      have hk' : some (a14, FieldType.boolean) = some q := hk
      cases hk'
      exact ⟨fun n z => ⟨(by intro x h; cases h), k14, g14, c14, d14⟩, n14⟩
    | 2, hk =>
      have hk' : some (a15, FieldType.object "HandOverHorse$Stroke") = some q := hk
      cases hk'
      exact ⟨fun n z => ⟨(by intro x h; cases h), k15, g15, c15, d15⟩, k15, c15, g15, d15, e15, n15⟩
    | 3, hk =>
      have hk' : some (a16, FieldType.object "HandOverHorse$Text") = some q := hk
      cases hk'
      exact ⟨fun n z => ⟨(by intro x h; cases h), k16, g16, c16, d16⟩, k16, c16, g16, d16, e16, n16⟩
    | 4, hk =>
      have hk' : some (a17, FieldType.array .int) = some q := hk
      cases hk'
      exact ⟨fun n z => ⟨(by intro x h; cases h), k17, g17, c17, d17⟩, n17⟩
    | k + 5, hk =>
      have hk' : (none : Option (ClassId × FieldType)) = some q := hk
      cases hk'
/-- the statics, the constants and the script, as the Statement gives them -/
theorem st_O {s : State} {b L : Nat} {xs : Nat → Int32} (hts : ∀ w ∈ lw_tbl, w.before #[Value.ref b] s = true) (hgv : (Jvm.Cond.and given_1 narrow_1).before #[Value.ref b] s = true) (hX0 : va_X b L xs s s.heap) (hbl : b < s.heap.size) :
    ∃ T : Nat → Nat, ∀ (fc : Nat → ClassId × (Nat → Nat)) (A : Nat → ClassId), T 0 = b ∧ xZ (gG fc A T s.heap) s ∧ xOI (gG fc A T s.heap) s ∧ xR (gG fc A T s.heap) 0 (kK (C0 L)) (ov (fun _ => z0) (oldI xs)) (fun _ => o0) s.heap := by
  have hs := flat_of_before _ hgv
  have hA : ∀ a : Nat, a < s.heap.size → ¬ (fun q : Nat => s.heap.size ≤ q) a := fun a h => Nat.not_le.mpr h
  have hel : ∀ j : Nat, j < 7 → (Term.elem (.static "HandOverHorse" "MOST_OF_PART" "[I") (.int (Int32.ofNat j))).eval #[Value.ref b] s none [] s = some (.int (mopF j)) := by
    intro j hj
    rcases (show j = 0 ∨ j = 1 ∨ j = 2 ∨ j = 3 ∨ j = 4 ∨ j = 5 ∨ j = 6 by omega) with rfl | rfl | rfl | rfl | rfl | rfl | rfl <;> exact va_eqt (hs _ (by decide +kernel))
  obtain ⟨a1, e1, T1⟩ := va_Tof (tm := .static "HandOverHorse" "MOST_OF_PART" "[I") (ty := .int) (N := 7) (f := fun j => .int (mopF j)) (A := fun q : Nat => s.heap.size ≤ q) (by decide) (hs _ (by decide +kernel)) (va_eqt (hs _ (by decide +kernel))) hel hA
  have hCS : va_Z "java/lang/String" "COMPACT_STRINGS" "Z" (.int 1) (fun q : Nat => s.heap.size ≤ q) s s.heap := va_Zof (hts _ (lw_at 783 (by decide +kernel))) (hts _ (lw_at 89 (by decide +kernel))) (va_eqt (hs _ (by decide +kernel))) hA
  have hMP : va_Z "HandOverHorse" "MOST_OF_PART" "[I" (.ref a1) (fun q : Nat => s.heap.size ≤ q) s s.heap := va_Zref (hts _ (lw_at 615 (by decide +kernel))) (hts _ (lw_at 75 (by decide +kernel))) e1 hA
  obtain ⟨adK, adV, S, hSe⟩ := vk_Sof (args := #[Value.ref b]) (s := s) (N := 2) (tm := sxT) (len := [4, 3]) (byt := [[99, 109, 107, 104], [119, 107, 99]]) (A := fun q : Nat => s.heap.size ≤ q)
    (fun i hi => by rcases two_i hi with rfl | rfl <;> decide)
    (fun i hi => by rcases two_i hi with rfl | rfl <;> exact hs _ (by decide +kernel))
    (fun i hi => by rcases two_i hi with rfl | rfl <;> exact hs _ (by decide +kernel))
    (fun i hi => by rcases two_i hi with rfl | rfl <;> exact hs _ (by decide +kernel))
    (fun i hi => by rcases two_i hi with rfl | rfl <;> exact hs _ (by decide +kernel))
    (fun i hi j hj => by
      rcases two_i hi with rfl | rfl
      · have hj : j < 4 := hj
        rcases (show j = 0 ∨ j = 1 ∨ j = 2 ∨ j = 3 by omega) with rfl | rfl | rfl | rfl <;> exact hs _ (by decide +kernel)
      · have hj : j < 3 := hj
        rcases (show j = 0 ∨ j = 1 ∨ j = 2 by omega) with rfl | rfl | rfl <;> exact hs _ (by decide +kernel))
    (fun i j hi hj hij => by
      rcases two_i hi with rfl | rfl
      · rcases two_i hj with rfl | rfl
        · exact absurd rfl hij
        · exact Or.inl (hs _ (by decide +kernel))
      · rcases two_i hj with rfl | rfl
        · exact Or.inr (hs _ (by decide +kernel))
        · exact absurd rfl hij)
    hA
  obtain ⟨a2, c2, cell2, k2, e2, -⟩ := Cond.exactly_spec (args := #[Value.ref b]) (first := s) (o := none) (s := s) (idx := []) (t := .string "HandOverHorse$Text" 24) (cls := "java/lang/String") (hs _ (by decide +kernel))
  have ea : ∀ i : Nat, i < 2 → gT b a1 a2 adK adV (3 + i) = adK i := fun i hi => by rcases two_i hi with rfl | rfl <;> rfl
  have ev : ∀ i : Nat, i < 2 → gT b a1 a2 adK adV (5 + i) = adV i := fun i hi => by rcases two_i hi with rfl | rfl <;> rfl
  refine ⟨gT b a1 a2 adK adV, fun fc A => ⟨rfl, ⟨hMP, hCS, ?_, ?_, ?_, ?_⟩, fun j hj => ?_, ⟨rfl, fun k q hk => ?_, fun q _ => rfl, by omega, rfl, fun j hj => ?_⟩⟩⟩
  · exact vk_R.of (A := #[Value.ref b]) (hts _ (lw_at 167 (by decide +kernel))) e2
  · exact vk_R.of (A := #[Value.ref b]) (hts _ (lw_at 733 (by decide +kernel))) (hSe 0 (by omega))
  · exact vk_R.of (A := #[Value.ref b]) (hts _ (lw_at 734 (by decide +kernel))) (hSe 1 (by omega))
  · refine ⟨fun i hi => ?_, fun i j hi hj h => ?_⟩
    · have h := S.1 i hi
      rw [← ea i hi, ← ev i hi] at h
      exact h
    · have h : gT b a1 a2 adK adV (3 + i) = gT b a1 a2 adK adV (3 + j) := h
      rw [ea i hi, ea j hj] at h
      exact S.2 i j hi hj h
  · rcases two_i hj with rfl | rfl
    · obtain ⟨scr, h1, h2, -⟩ := hX0
      exact ⟨scr, h1, h2⟩
    · obtain ⟨cell, h1, h2, -⟩ := T1
      exact ⟨cell, h1, h2⟩
  · simp [xL] at hk
  · rcases two_i hj with rfl | rfl
    · obtain ⟨scr, h1, h2, h3, h4, h5⟩ := hX0
      refine ⟨hbl, rfl, scr, h1, h3, ?_, ?_, h5⟩
      · show L ≤ scr.slots.size
        omega
      · show scr.slots.size.toInt32 = Int32.ofNat L
        rw [h4]
    · obtain ⟨cell, h1, h2, h3, h4, h5, h6, h7⟩ := T1
      exact ⟨Nat.not_le.mp h7, rfl, cell, h1, h3, h4, h5, h6⟩
set_option maxRecDepth 20000 in
theorem whole_start {p : Program} {e : Env} {s : State} {m : MethodId} {below : List Frame} {meth : Method} {c : Code} (l : Launch) (_hflags : l.flags = flags0) (hname : meth.name = "law") {b L : Nat} {xs : Nat → Int32} (hL : L ≤ 384) (A0 : lw_At p s m meth c b L xs) : W p l e room_1 s m #[Value.ref b] below meth c s.heap [] 0 0 (lw_Z below #[Value.ref b] s) (entryFrame m ([Value.ref b] : List Value).toArray 4) := by
  obtain ⟨hx, hb, hr, hml, hown, hts, hX0, hbl, hlocks, hgv⟩ := id A0
  have hxw : ∀ w ∈ xw, w.before #[Value.ref b] s = true := fun w hw => hts w (List.mem_filter.mp hw).1
  obtain ⟨fc, hfc⟩ : ∃ f : Nat → ClassId × (Nat → Nat), ∀ c, c < 13 → u_Kn s (xcn c) (xTc c) (xN c) (f c).1 (f c).2 := by
    have h0 : ∀ c : Nat, ∃ q : ClassId × (Nat → Nat), c < 13 → u_Kn s (xcn c) (xTc c) (xN c) q.1 q.2 := by
      intro c
      by_cases hc : c < 13
      · obtain ⟨c1, i1, h1⟩ := u_known (C := xcn c) (T := xTc c) (N := xN c) (n := xN c) hxw (xi_all hc) (hxw _ (xinst hc))
        exact ⟨(c1, i1), fun _ => h1⟩
      · exact ⟨(0, fun _ => 0), fun h => absurd h hc⟩
    exact Classical.axiomOfChoice h0
  obtain ⟨T, hT⟩ := st_O hts hgv hX0 hbl
  obtain ⟨A, hKa⟩ := st_K (T := T) hts hfc
  obtain ⟨hT0, hZ, hOI, hR⟩ := hT fc A
  generalize hG : gG fc A T s.heap = G at hKa hZ hOI hR
  have g1 : G.2.2.1 = s.heap.size := by rw [← hG]; rfl
  have g2 : G.2.2.2.1 0 = b := by rw [← hG]; exact hT0
  have hK : xK G s := ⟨hKa, hZ, va_AO.of (hts _ (lw_at 111 (by decide +kernel))), va_AO.of (hts _ (lw_at 161 (by decide +kernel))), over_moved (Vm.Alike.refl _) (hts _ (lw_at 323 (by decide +kernel))), hOI⟩
  have hAmb : xAmb G (p, l, e, room_1, s, m, #[Value.ref b], below, meth, c, lw_Z below #[Value.ref b] s) m_Law_law 545 600000 7302250 := ⟨hx, hb, hml, hown, hxw, hK, Nat.le_of_ble_eq_true rfl, Nat.le_of_ble_eq_true rfl, Nat.le_refl _, Nat.le_refl _, hname⟩
  have h := law_all (L := L) (xs := xs) (O := oldI xs) (Nat.le_refl _) hAmb hL rfl ⟨rfl, rfl, rfl, rfl, rfl, rfl, rfl⟩ (fun C I H locs ls hR hlo hlv => by
    have hd : decode code 1388 = .ok (.ireturn, 1) := (xdec (Y := m_Law_law) ok_Law_law (pc := 1388) (nx := 1389) (a := 0) (ins := .ireturn) (cs := []) rfl).1
    exact W.forget (locs := []) (L := locs) (fun q hq => by rw [← g1]; exact hlo q hq) (lw_ret hx hb hr hlocks hd))
  have e9 : ([Value.ref b] : List Value) = [Value.ref 1000000].map (xv G) := by
    have e8 : xmu G 1000000 = b := by
      unfold xmu
      rw [if_neg (by omega)]
      exact g2
    show [Value.ref b] = [Value.ref (xmu G 1000000)]
    rw [e8]
  have key : W p l e room_1 s m #[Value.ref b] below meth c s.heap [] 0 0 (lw_Z below #[Value.ref b] s) (entryFrame m ([Value.ref 1000000].map (xv G)).toArray 4) := by
    have hl := lv_entry ([Value.ref 1000000].map (xv G)) (n := 4) (by rw [xwid_sl]; exact Nat.le_of_ble_eq_true rfl)
    rw [lg_entry_eq]
    refine h s.heap [] _ hR (fun q hq => by cases hq) ⟨hl.1, hl.2.1, fun i hi => ?_⟩
    have := hl.2.2 _ (xargs_mem G [Value.ref 1000000] 4 0 i hi)
    rw [Nat.zero_add] at this
    exact this
  rw [← e9] at key
  exact key
set_option maxHeartbeats 4000000 in
theorem lw_walk (l : Launch) (hflags : l.flags = flags0) (b : Addr) (xs : List Int32) : MetFree l x (headSpec (Jvm.Cond.code x code maxLocals ret :: tables_1) room_1) (lw_P b xs) (fun _ _ _ _ _ => True) lw_Q := by
  refine MetFree.of_bodyS (code := code) (maxLocals := maxLocals) (ret := ret) (by decide) ?_ ?_
  · intro args s m h hn
    obtain ⟨meth, c, h1, h2, h3, h4, h5, h6, -, -⟩ := Cond.code_spec hn (atoms_spec (ws := Jvm.Cond.code x code maxLocals ret :: tables_1) h _ List.mem_cons_self)
    exact ⟨meth, c, h1, h2, h3, h4, h5, h6⟩
  · intro p e s m args below meth c s₁ B hml0 hP _
    obtain ⟨rfl, hx, hbd, hgv⟩ := hP
    obtain ⟨scr, harrAt, hlist, hof, hsmall⟩ := hx
    obtain ⟨hcb, hkn, -, -⟩ := State.arrayAt?_spec harrAt
    have hown : s.vm.findClass R_law = some m.cls := findClass_of_methodNamed B.named
    have hts0 : ∀ c ∈ (Jvm.Cond.code x code maxLocals ret :: tables_1), c.before #[Value.ref b] s = true := atoms_spec (ws := Jvm.Cond.code x code maxLocals ret :: tables_1) B.pre
    have hts : ∀ w ∈ lw_tbl, w.before #[Value.ref b] s = true := k2_hts_sels lw_privs (fun w hw => hts0 w (List.mem_cons_of_mem _ hw)) lw_privs_ok
    have hml : c.maxLocals = 4 := B.maxLocals_eq (hts0 _ List.mem_cons_self)
    have X₀ : Stand p l e room_1 s m #[Value.ref b] below meth c s₁ [] 0 0 := Stand.of_body B
    have hh0 : s₁.heap = s.heap := by rw [B.state]; rfl
    have hsz : scr.slots.size = xs.length := by rw [← Array.length_toList, hlist, List.length_map]
    have hval : ∀ j : Nat, j < xs.length → scr.slots[j]? = some (.int (xs.getD j 0)) := fun j hj => by
      rw [← Array.getElem?_toList, hlist]
      simp [hj]
    have hbl : b < s.heap.size := (Array.getElem?_eq_some_iff.mp hcb).1
    have hX : va_X b xs.length (fun j => xs.getD j 0) s s.heap := ⟨scr, hcb, hof, hkn, hsz, hval⟩
    have K : W p l e room_1 s m #[Value.ref b] below meth c s₁.heap [] 0 0 (lw_Z below #[Value.ref b] s) (entryFrame m ([Value.ref b] : List Value).toArray 4) := by
      rw [hh0]
      exact whole_start l hflags (name_of_methodNamed B.named B.method).1 hbd ⟨B.exec, B.bytes, B.returns, hml, hown, hts, hX, hbl, B.notSynchronized, hgv⟩
    obtain ⟨t, a1, o, b1, b2, b3⟩ := K s₁ rfl X₀
    exact ⟨t, o, a1, b1, b2, b3⟩
theorem lw_pre_spec {args : Array Value} {s : State} (h : (Jvm.Cond.and given_1 narrow_1).before args s = true) (hr : rest_1_c.before args s = true) : ∃ (b : Addr) (xs : List Int32), lw_P b xs args s := by
  have hs := flat_of_before _ h
  have hq := flat_of_before _ hr
  have hc : (Cond.count 1).before args s = true := hs _ (by decide +kernel)
  have harr : (Cond.arrayOf (.arg 0) .int).before args s = true := hs _ (by decide +kernel)
  have hle : (Cond.le (.length (.arg 0)) (.int 384)).before args s = true := hs _ (by decide +kernel)
  have hlen : (Cond.isInt (.length (.arg 0))).before args s = true := hq _ (by decide +kernel)
  have hall : (Cond.all (.arg 0) (.isInt (.elem (.arg 0) (.index 0)))).before args s = true := hq _ (by decide +kernel)
  obtain ⟨b, xs, hb, hx⟩ := State.ints_of_pre rfl harr hlen hall
  have hsm : xs.length < 2 ^ 31 := hx.choose_spec.2.2.2
  have hev : (Term.length (.arg 0)).eval args s none [] s = some (.int xs.length.toInt32) := hx.length_eval hb
  have hv := Cond.le_ints hev (show (Term.int 384).eval args s none [] s = some (.int 384) from rfl)
  have hd : xs.length.toInt32 ≤ 384 := by
    simpa [Cond.before, Cond.holds, hv] using hle
  have hN : xs.length ≤ 384 := (Int32.ofNat_le_ofNat hsm (by decide)).mp (show Int32.ofNat xs.length ≤ Int32.ofNat 384 from hd)
  exact ⟨b, xs, Cond.one_arg hc (show args[0]? = some (.ref b) from hb), hx, hN, h⟩
theorem lw_comes (l : Launch) (hflags : l.flags = flags0) : Comes l x (Jvm.Cond.code x code maxLocals ret :: tables_1) room_1 (fun tb e args s => Calls_1 tb e args s ∧ rest_1 tb e args s ∧ Pre_1 tb e args s)
    (fun _ _ args s o t => lw_Q args s o t) := by
  intro p e ha hc hk s m args below hf hfit hheap happ hpre
  obtain ⟨b, xs, hP⟩ := lw_pre_spec hpre.2.2 hpre.2.1
  obtain ⟨k, o, h1, h2, h3, hQ⟩ := lw_walk l hflags b xs p e ha hc hk s m args below hf ((Spec.applies_iff_loose hf).mp happ).1 hP trivial
  exact ⟨k, o, h1, h2, h3, hQ⟩
theorem lw_frame {s t : State} {o : Outcome} {args : Array Value} (h : Framed s o t [] 600000 7302250) :
    Framed s o t (fieldLocs frame_1_writes args s ++ arrayLocs frame_1_arrays args s ++ staticLocs frame_1_statics s) 600000 7302250 := h
theorem lw_limb (L : Cond) (hL : ∀ (args : Array Value) (s t : State), L.after args s (.returned (some (.int 1))) t = true) :
    ArmFor flags0 classFile x code maxLocals ret World_1 tables_1 room_1 Calls_1 rest_1 Pre_1
      (fun tb e a s o t => postC L tb e a s o t ∧ Framed s o t (fieldLocs frame_1_writes a s ++ arrayLocs frame_1_arrays a s ++ staticLocs frame_1_statics s) 600000 7302250) := by
  intro l hflags _ _ p e ha hc hk s m args below hf hfit hheap happ hpre
  obtain ⟨k, o, h1, h2, h3, rfl, hF⟩ := lw_comes l hflags p e ha hc hk s m args below hf hfit hheap happ hpre
  exact ⟨k, _, h1, h2, h3, hL args s _, lw_frame hF⟩
theorem i_vc : Claimed_1_1 ∧ Claimed_1_2 := ⟨lw_limb limb_1_1 (fun args s t => by simp [limb_1_1, Cond.after, Cond.holds, Cond.value]), lw_limb limb_1_2 (fun args s t => Cond.after_iff.mpr (by
  first | (rw [show limb_1_2 = Cond.eq .result (.int 1) from rfl, Cond.eq_ints (x := 1) (y := 1) rfl rfl]; simp; done) | (simp [limb_1_2, Cond.value, Term.eval]; done)))⟩
