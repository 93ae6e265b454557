/-! new cells, contracts, returns, calls -/
def xprow (P : Nat → Nat → Option Nat) (r : Nat) (f : Nat → Option Nat) : Nat → Nat → Option Nat := fun a => if a = r then f else P a
def xkup (K : Nat → Nat × Nat) (r : Nat) (v : Nat × Nat) : Nat → Nat × Nat := fun a => if a = r then v else K a
theorem xrow_ne {I : Nat → Nat → Int32} {r q : Nat} {f : Nat → Int32} (h : q ≠ r) : xrow I r f q = I q := if_neg h
theorem xrow_self {I : Nat → Nat → Int32} {r : Nat} {f : Nat → Int32} : xrow I r f r = f := if_pos rfl
theorem xprow_ne {P : Nat → Nat → Option Nat} {r q : Nat} {f : Nat → Option Nat} (h : q ≠ r) : xprow P r f q = P q := if_neg h
theorem xprow_self {P : Nat → Nat → Option Nat} {r : Nat} {f : Nat → Option Nat} : xprow P r f r = f := if_pos rfl
section AN
variable {G : xG} {X : xC} {Y : MI} {d mc ms n : Nat} {K K' : Nat → Nat × Nat} {I : Nat → Nat → Int32} {P : Nat → Nat → Option Nat} {cells slots pc nx r : Nat} {lv st : List Value}
theorem xR.push {I' : Nat → Nat → Int32} {P' : Nat → Nat → Option Nat} {H H1 : Heap} (h : xR G n K I P H) (hz : H1.size = H.size + 1) (ho : ∀ q : Nat, q < H.size → H1[q]? = H[q]?) (he : va_at G.1 xCl (G.2.2.1 + n, xE G K' I' P' n) H1) (hE : ∀ q, q ≠ n → K' q = K q ∧ I' q = I q ∧ P' q = P q) (hn : n + 1 < 1000000) : xR G (n + 1) K' I' P' H1 := by
  have hsz := h.1
  refine ⟨by omega, fun k q hk => ?_, fun q hq => (ho q (by omega)).trans (h.2.2.1 q hq), hn, h.2.2.2.2.1, fun j hj => ?_⟩
  · obtain ⟨hl, rfl⟩ := xL_inv hk
    by_cases e : k = n
    · subst e; exact he
    · have hlt : k < n := by omega
      obtain ⟨e1, e2, e3⟩ := hE k e
      have : xE G K' I' P' k = xE G K I P k := by
        have h2 := xE_ne (G := G) (K := K') (I := I) (I' := I') (P := P) (P' := P') e2 e3
        rw [h2]; unfold xE; rw [e1]
      rw [this]
      exact (h.at hlt).kept (ho _ (by show G.2.2.1 + k < H.size; omega))
  · obtain ⟨h1, h2, h3⟩ := h.2.2.2.2.2 j hj
    obtain ⟨e1, e2, -⟩ := hE (1000000 + j) (by omega)
    refine ⟨h1, by rw [e1]; exact h2, ?_⟩
    rw [e1, e2, ho _ (by omega)]
    exact h3
/-- new: an object of class c -/
theorem ax_new {c w : Nat} (hX : xAmb G X Y d mc ms) (hY : xpOK Y = true) {idx a : Nat} {cs : List (Int32 × Nat)} (hs : xlook Y.2.2.2.2.1 pc = some (.new idx, nx, a, cs)) (hc : c < 13) (hw : Cond.classLink Y.1.cls idx (xcn c) ∈ xw ∧ Cond.instantiable (xcn c) (xN c) ∈ xw ∧ Cond.initialized (xcn c) ∈ xw)
    (hk : K' n = (c, w)) (hK' : ∀ q, q ≠ n → K' q = K q) (hn : n + 1 < 1000000) (hm : cells + 1 ≤ mc ∧ slots + xN c ≤ ms)
    (kk : aW G X Y (n + 1) K' (xrow I n (fun _ => 0)) (xprow P n (fun _ => none)) (cells + 1) (slots + xN c) nx lv (.ref n :: st)) : aW G X Y n K I P cells slots pc lv st := by
  obtain ⟨hd, -, hlen, -⟩ := xdec hY hs
  obtain rfl : nx = pc + 3 := by simpa [xlen] using hlen
  rw [Nat.add_sub_cancel_left] at hd
  intro H locs ls hR hlo hlv
  have hts := hX.2.2.2.2.1
  have hK := hX.2.2.2.2.2.1.1
  have hKn := hK.1 c _ (xCl_get hc)
  have hsz := hR.1
  refine W.newcK hX.1 hX.2.1 hX.2.2.2.1 (hts _ hw.1) (hts _ hw.2.1) (hts _ hw.2.2) rfl hd (Nat.le_trans hm.1 hX.2.2.2.2.2.2.2.2.1) (Nat.le_trans hm.2 hX.2.2.2.2.2.2.2.2.2.1) hKn.2.1 hR.1 fun H1 kC hkC e1 z1 o1 => ?_
  have hat : va_at G.1 xCl (G.2.2.1 + n, xE G K' (xrow I n (fun _ => 0)) (xprow P n (fun _ => none)) n) H1 := by
    rw [xE_obj hk hc]
    refine ⟨_, xCl_get hc, (u_born (xty c) hts (xi_all hc) hKn hkC e1 (xtk_all hc)).to (fun j hj => ?_)⟩
    unfold vp_V
    have hjN : j < xN c := hj
    rw [List.getD_eq_getElem?_getD]
    simp only [List.getElem?_map, List.getElem?_range hjN, Option.map_some, Option.getD_some]
    have hty : xty c j = .int ∨ xty c j = .boolean ∨ (xty c j).isReference = true := by
      rcases (show c = 0 ∨ c = 1 ∨ c = 2 ∨ c = 3 ∨ c = 4 ∨ c = 5 ∨ c = 6 ∨ c = 7 ∨ c = 8 ∨ c = 9 ∨ c = 10 ∨ c = 11 ∨ c = 12 by omega) with rfl | rfl | rfl | rfl | rfl | rfl | rfl | rfl | rfl | rfl | rfl | rfl | rfl <;>
        (revert j; decide)
    unfold xfv
    rw [xrow_self, xprow_self]
    rcases hty with h | h | h
    · rw [h]; rfl
    · rw [h]; rfl
    · cases hx : xty c j <;> rw [hx] at h <;> first | (cases h; done) | rfl
  have hR' : xR G (n + 1) K' (xrow I n (fun _ => 0)) (xprow P n (fun _ => none)) H1 := hR.push (by omega) (fun q hq => o1 q (by omega)) hat (fun q hq => ⟨hK' q hq, xrow_ne hq, xprow_ne hq⟩) hn
  have k2 := kk H1 locs ls hR' hlo hlv
  have e3 : xv G (.ref n) = .ref (G.2.2.1 + n) := congrArg Value.ref (xmu_new (by omega))
  rw [List.map_cons, e3] at k2
  exact k2
/-- newarray: ints or booleans -/
theorem ax_newa {c : Nat} {at_ : ArrayType} {x : Int32} {w : Nat} (hX : xAmb G X Y d mc ms) (hY : xpOK Y = true) {a : Nat} {cs : List (Int32 × Nat)} (hs : xlook Y.2.2.2.2.1 pc = some (.newarray at_, nx, a, cs)) (hat_ : (c = 13 ∧ at_ = .int) ∨ (c = 14 ∧ at_ = .boolean)) (hw : Cond.arrayClass (newarray.typeOf at_) ∈ xw)
    (hx0 : ¬ x < 0) (hxw : x.toNatClampNeg = w) (hwl : w ≤ 10000) (hk : K' n = (c, w)) (hK' : ∀ q, q ≠ n → K' q = K q) (hn : n + 1 < 1000000) (hm : cells + 1 ≤ mc ∧ slots + w ≤ ms)
    (kk : aW G X Y (n + 1) K' (xrow I n (fun _ => 0)) (xprow P n (fun _ => none)) (cells + 1) (slots + w) nx lv (.ref n :: st)) : aW G X Y n K I P cells slots pc lv (.int x :: st) := by
  obtain ⟨hd, -, hlen, -⟩ := xdec hY hs
  obtain rfl : nx = pc + 2 := by simpa [xlen] using hlen
  rw [Nat.add_sub_cancel_left] at hd
  intro H locs ls hR hlo hlv
  have hts := hX.2.2.2.2.1
  have hK := hX.2.2.2.2.2.1.1
  have hsz := hR.1
  refine va_newaK hX.1 hX.2.1 (hts _ hw) rfl hd rfl hx0 hxw (by rcases hat_ with ⟨-, rfl⟩ | ⟨-, rfl⟩ <;> simp [newarray.typeOf, componentBytes] <;> omega) (Nat.le_trans hm.1 hX.2.2.2.2.2.2.2.2.1) (Nat.le_trans hm.2 hX.2.2.2.2.2.2.2.2.2.1) hR.1 fun H1 cA e1 z1 o1 hAr hNm => ?_
  have hcA : cA = G.2.1 c := by
    rcases hat_ with ⟨rfl, rfl⟩ | ⟨rfl, rfl⟩
    · exact Option.some.inj (hNm.symm.trans (hK.2 0 _ rfl).2)
    · exact Option.some.inj (hNm.symm.trans (hK.2 1 _ rfl).2)
  have hat : va_at G.1 xCl (G.2.2.1 + n, xE G K' (xrow I n (fun _ => 0)) (xprow P n (fun _ => none)) n) H1 := by
    rw [xE_int hk (by omega) (by omega), xrow_self]
    show H1[G.2.2.1 + n]? = some (arrV (G.2.1 c) w (fun _ => .int 0))
    rw [e1, hcA]
    rcases hat_ with ⟨-, rfl⟩ | ⟨-, rfl⟩ <;> rfl
  have hR' : xR G (n + 1) K' (xrow I n (fun _ => 0)) (xprow P n (fun _ => none)) H1 := hR.push (by omega) (fun q hq => o1 q (by omega)) hat (fun q hq => ⟨hK' q hq, xrow_ne hq, xprow_ne hq⟩) hn
  have k2 := kk H1 locs ls hR' hlo hlv
  have e3 : xv G (.ref n) = .ref (G.2.2.1 + n) := congrArg Value.ref (xmu_new (by omega))
  rw [List.map_cons, e3] at k2
  exact k2
/-- anewarray: STROKES or TEXTS -/
theorem ax_newq {c : Nat} {E : String} {x : Int32} {w idx : Nat} (hX : xAmb G X Y d mc ms) (hY : xpOK Y = true) {a : Nat} {cs : List (Int32 × Nat)} (hs : xlook Y.2.2.2.2.1 pc = some (.anewarray idx, nx, a, cs)) (hE : (c = 15 ∧ E = "HandOverHorse$Stroke") ∨ (c = 16 ∧ E = "HandOverHorse$Text")) (hw : Cond.classLink Y.1.cls idx E ∈ xw)
    (hx0 : ¬ x < 0) (hxw : x.toNatClampNeg = w) (hwl : w ≤ 10000) (hk : K' n = (c, w)) (hK' : ∀ q, q ≠ n → K' q = K q) (hn : n + 1 < 1000000) (hm : cells + 1 ≤ mc ∧ slots + w ≤ ms)
    (kk : aW G X Y (n + 1) K' (xrow I n (fun _ => 0)) (xprow P n (fun _ => none)) (cells + 1) (slots + w) nx lv (.ref n :: st)) : aW G X Y n K I P cells slots pc lv (.int x :: st) := by
  obtain ⟨hd, -, hlen, -⟩ := xdec hY hs
  obtain rfl : nx = pc + 3 := by simpa [xlen] using hlen
  rw [Nat.add_sub_cancel_left] at hd
  intro H locs ls hR hlo hlv
  have hts := hX.2.2.2.2.1
  have hK := hX.2.2.2.2.2.1.1
  have hsz := hR.1
  subst hxw
  have hAO : va_AO E X.2.2.2.2.1 := by
    rcases hE with ⟨-, rfl⟩ | ⟨-, rfl⟩
    · exact hX.2.2.2.2.2.1.2.2.1
    · exact hX.2.2.2.2.2.1.2.2.2.1
  refine W.anew hX.1 hX.2.1 hX.2.2.2.1 (hts _ hw) hAO.use rfl hd rfl hx0 (by omega) (Nat.le_trans hm.1 hX.2.2.2.2.2.2.2.2.1) (Nat.le_trans hm.2 hX.2.2.2.2.2.2.2.2.2.1) fun cA kA comp f1 f2 f3 f4 => ?_
  generalize hH1 : H.push ({ cls := cA, slots := Array.replicate x.toNatClampNeg .null, vm := .none } : Cell) = H1
  have z1 : H1.size = H.size + 1 := by rw [← hH1, Array.size_push]
  have e1 : H1[H.size]? = some (arrV cA x.toNatClampNeg (fun _ => .null)) := by rw [← hH1, Array.getElem?_push_size, ← arrV_new]
  have o1 : ∀ q : Nat, q < H.size → H1[q]? = H[q]? := fun q hq => by rw [← hH1, Array.getElem?_push, if_neg (Nat.ne_of_lt hq)]
  have hcA : cA = G.2.1 c := by
    rcases hE with ⟨rfl, rfl⟩ | ⟨rfl, rfl⟩
    · obtain ⟨_, _, -, -, -, h4⟩ := (hK.2 2 _ rfl).2
      exact Option.some.inj (f1.symm.trans h4)
    · obtain ⟨_, _, -, -, -, h4⟩ := (hK.2 3 _ rfl).2
      exact Option.some.inj (f1.symm.trans h4)
  have hat : va_at G.1 xCl (G.2.2.1 + n, xE G K' (xrow I n (fun _ => 0)) (xprow P n (fun _ => none)) n) H1 := by
    rw [xE_ref hk (by omega), xprow_self]
    show H1[G.2.2.1 + n]? = some (arrV (G.2.1 c) _ (fun _ => .null))
    rw [← hsz, e1, hcA]
  have hR' : xR G (n + 1) K' (xrow I n (fun _ => 0)) (xprow P n (fun _ => none)) H1 := hR.push z1 o1 hat (fun q hq => ⟨hK' q hq, xrow_ne hq, xprow_ne hq⟩) hn
  have k2 := kk H1 locs ls hR' hlo hlv
  have e3 : xv G (.ref n) = .ref H.size := by rw [hsz]; exact congrArg Value.ref (xmu_new (by omega))
  rw [List.map_cons, e3] at k2
  exact k2
end AN
/-! contracts -/
abbrev xPost : Type := Option Value → Nat → (Nat → Nat × Nat) → (Nat → Nat → Int32) → (Nat → Nat → Option Nat) → Prop
def rmD (d mc ms : Nat) : Room := { frames := d, cells := mc, slots := ms, locals := 64 * d }
def cPre (G : xG) (as : List Value) (n : Nat) (K : Nat → Nat × Nat) (I : Nat → Nat → Int32) (P : Nat → Nat → Option Nat) : Array Value → State → Prop := fun a U => a = (as.map (xv G)).toArray ∧ xR G n K I P U.heap ∧ xK G U
def cPost (G : xG) (Post : xPost) : Array Value → State → Outcome → State → Prop := fun _ _ o t => ∃ v n' K' I' P', o = .returned (v.map (xv G)) ∧ Post v n' K' I' P' ∧ xR G n' K' I' P' t.heap
def cWs (Y : MI) : List Cond := Cond.code Y.1 Y.2.1 Y.2.2.1 Y.2.2.2.1 :: xw
/-- method Y, called with these arguments over these cells, returns, and Post holds of its answer and the cells; it needs d frames, makes at most mc cells of ms slots -/
def cM (G : xG) (d : Nat) (Y : MI) (as : List Value) (n : Nat) (K : Nat → Nat × Nat) (I : Nat → Nat → Int32) (P : Nat → Nat → Option Nat) (mc ms : Nat) (Post : xPost) : Prop :=
  ∀ l : Launch, Met l Y.1 (cWs Y) (rmD d mc ms) (cPre G as n K I P) (cPost G Post) mc ms (xA G)
/-- the end of a method's body -/
def xRet (G : xG) (X : xC) (Y : MI) (mc ms : Nat) (Post : xPost) : Prop :=
  X.2.2.2.2.2.2.2.2.2.2 = MQ X.2.2.2.2.2.2.2.1 (cPost G Post) X.2.2.2.2.2.2.1 X.2.2.2.2.1 mc ms (xA G) ∧ X.2.2.2.2.2.2.2.2.1.sig.returnType = Y.2.2.2.1 ∧ X.2.2.2.2.2.2.2.2.1.locks = false
def xargs : List Value → Nat → List Value
  | [], k => List.replicate k .null
  | .long x :: vs, k => .long x :: .null :: xargs vs (k - 2)
  | .double x :: vs, k => .double x :: .null :: xargs vs (k - 2)
  | v :: vs, k => v :: xargs vs (k - 1)
theorem xget_rep (k i : Nat) : xget (List.replicate k .null) i = .null := by
  induction k generalizing i with
  | zero => rfl
  | succ k ih => cases i with
    | zero => rfl
    | succ i => exact ih i
theorem xargs_mem (G : xG) : ∀ (as : List Value) (k o i : Nat), xget (xargs as k) i ≠ .null → (o + i, xv G (xget (xargs as k) i)) ∈ lv_args o (as.map (xv G)) := by
  intro as
  induction as with
  | nil => intro k o i h; exact absurd (xget_rep k i) h
  | cons v vs ih =>
    intro k o i h
    cases v
    case long x =>
      match i, h with
      | 0, h => exact List.mem_cons_self
      | 1, h => exact absurd rfl h
      | i + 2, h =>
        have := ih (k - 2) (o + 2) i h
        rw [show o + (i + 2) = o + 2 + i by omega]
        exact List.mem_cons_of_mem _ this
    case double x =>
      match i, h with
      | 0, h => exact List.mem_cons_self
      | 1, h => exact absurd rfl h
      | i + 2, h =>
        have := ih (k - 2) (o + 2) i h
        rw [show o + (i + 2) = o + 2 + i by omega]
        exact List.mem_cons_of_mem _ this
    all_goals
      match i, h with
      | 0, h => exact List.mem_cons_self
      | i + 1, h =>
        have := ih (k - 1) (o + 1) i h
        rw [show o + (i + 1) = o + 1 + i by omega]
        exact List.mem_cons_of_mem _ this
def xwid : List Value → Nat
  | [] => 0
  | .long _ :: vs => xwid vs + 2
  | .double _ :: vs => xwid vs + 2
  | _ :: vs => xwid vs + 1
theorem xwid_sl (G : xG) (as : List Value) : (lg_sl (as.map (xv G))).length = xwid as := by
  induction as with
  | nil => rfl
  | cons v vs ih =>
    have h : lg_sl ((v :: vs).map (xv G)) = (if (xv G v).category = 2 then [.val (xv G v), .second] else [.val (xv G v)]) ++ lg_sl (vs.map (xv G)) := rfl
    rw [h, List.length_append, ih]
    cases v <;> simp [xv, xwid, Value.category] <;> omega
theorem cM.of {G : xG} {d : Nat} {Y : MI} {as : List Value} {n : Nat} {K : Nat → Nat × Nat} {I : Nat → Nat → Int32} {P : Nat → Nat → Option Nat} {mc ms : Nat} {Post : xPost} (hy : plainName Y.1.cls = true) (hw : xwid as ≤ Y.2.2.1)
    (body : ∀ X : xC, xAmb G X Y d mc ms → xRet G X Y mc ms Post → aW G X Y n K I P 0 0 0 (xargs as Y.2.2.1) []) : cM G d Y as n K I P mc ms Post := by
  intro l
  refine Met.ofW (cc := Y.2.1) (maxL := Y.2.2.1) (ret := Y.2.2.2.1) hy rfl ?_
  intro p e s m args below meth c s₁ B hml hv
  obtain ⟨rfl, hR, hK⟩ := hv
  have hts : ∀ w ∈ cWs Y, w.before _ s = true := atoms_spec (ws := cWs Y) B.pre
  have hown : s.vm.findClass Y.1.cls = some m.cls := findClass_of_methodNamed B.named
  have hnm := (name_of_methodNamed B.named B.method).1
  have h := body (p, l, e, (headSpec (cWs Y) (rmD d mc ms)).room, s, m, (as.map (xv G)).toArray, below, meth, c, MQ below (cPost G Post) (as.map (xv G)).toArray s mc ms (xA G))
    ⟨B.exec, B.bytes, hml, hown, fun w hw => hts w (List.mem_cons_of_mem _ hw), hK, Nat.le_refl _, Nat.le_refl _, Nat.le_refl _, Nat.le_refl _, hnm⟩ ⟨rfl, B.returns, B.notSynchronized⟩
  have hl := lv_entry (as.map (xv G)) (n := Y.2.2.1) (by rw [xwid_sl]; exact hw)
  rw [lg_entry_eq]
  refine h s.heap [] _ hR (fun q hq => by cases hq) ⟨hl.1, hl.2.1, fun i hi => ?_⟩
  have := hl.2.2 _ (xargs_mem G as Y.2.2.1 0 i hi)
  rw [Nat.zero_add] at this
  exact this
section AR
variable {G : xG} {X : xC} {Y : MI} {d mc ms n : Nat} {K : Nat → Nat × Nat} {I : Nat → Nat → Int32} {P : Nat → Nat → Option Nat} {cells slots pc nx r : Nat} {lv st : List Value} {Post : xPost}
theorem ax_iret {v : Int32} (hX : xAmb G X Y d mc ms) (hE : xRet G X Y mc ms Post) (hY : xpOK Y = true) (hs : xis Y pc xq_iret = some nx) (ht : Y.2.2.2.1 = some .int ∨ (Y.2.2.2.1 = some .boolean ∧ (v = 0 ∨ v = 1))) (hc : cells ≤ mc ∧ slots ≤ ms) (hp : Post (some (.int v)) n K I P) : aW G X Y n K I P cells slots pc lv [.int v] := by
  obtain ⟨hd, rfl⟩ := xis_dec (ins := .ireturn) hY hs (fun i h => by cases i <;> first | rfl | cases h) (by decide)
  intro H locs ls hR hlo hlv
  rw [hE.1]
  refine W.widen hc.1 hc.2 ?_
  rcases ht with h | ⟨h, hv⟩
  · exact W.iret hX.1 hX.2.1 (hE.2.1.trans h) (fun t hT _ => ⟨_, _, _, _, _, rfl, hp, by rw [hT]; exact hR⟩) hlo hd hE.2.2
  · exact W.zret (ty := .boolean) hX.1 hX.2.1 (hE.2.1.trans h) (by rcases hv with rfl | rfl <;> rfl) (fun t hT _ => ⟨_, _, _, _, _, rfl, hp, by rw [hT]; exact hR⟩) hlo hd hE.2.2
theorem ax_vret (hX : xAmb G X Y d mc ms) (hE : xRet G X Y mc ms Post) (hY : xpOK Y = true) (hs : xis Y pc xq_ret = some nx) (ht : Y.2.2.2.1 = none) (hc : cells ≤ mc ∧ slots ≤ ms) (hp : Post none n K I P) : aW G X Y n K I P cells slots pc lv [] := by
  obtain ⟨hd, rfl⟩ := xis_dec (ins := .return_) hY hs (fun i h => by cases i <;> first | rfl | cases h) (by decide)
  intro H locs ls hR hlo hlv
  rw [hE.1]
  refine W.widen hc.1 hc.2 ?_
  exact W.vret hX.1 hX.2.1 (hE.2.1.trans ht) (fun t hT _ => ⟨none, _, _, _, _, rfl, hp, by rw [hT]; exact hR⟩) hlo hd hE.2.2
theorem ax_aret {q : Nat} {C : String} (hX : xAmb G X Y d mc ms) (hE : xRet G X Y mc ms Post) (hY : xpOK Y = true) (hs : xis Y pc xq_aret = some nx) (ht : Y.2.2.2.1 = some (.object C)) (hc : cells ≤ mc ∧ slots ≤ ms) (hp : Post (some (.ref q)) n K I P) : aW G X Y n K I P cells slots pc lv [.ref q] := by
  obtain ⟨hd, rfl⟩ := xis_dec (ins := .areturn) hY hs (fun i h => by cases i <;> first | rfl | cases h) (by decide)
  intro H locs ls hR hlo hlv
  rw [hE.1]
  refine W.widen hc.1 hc.2 ?_
  exact W.aret hX.1 hX.2.1 (hE.2.1.trans ht) (Or.inl ⟨C, rfl⟩) (Or.inr ⟨_, rfl⟩) (fun t hT _ => ⟨some (.ref q), _, _, _, _, rfl, hp, by rw [hT]; exact hR⟩) hlo hd hE.2.2
end AR
