/-! calls -/
theorem xlw_good {w : Cond} (h : w ∈ xw) : goodWord w = true := (List.mem_filter.mp h).2
theorem xgood {Y' : MI} (h : Cond.code Y'.1 Y'.2.1 Y'.2.2.1 Y'.2.2.2.1 ∈ xw) : GoodIn xw (cWs Y') := by
  intro w hw
  have hm : w ∈ xw := by
    rcases List.mem_cons.mp hw with rfl | hw
    · exact h
    · exact hw
  exact ⟨hm, good_of_word (xlw_good hm)⟩
/-- what every call asks of the tables -/
def xLk (own : String) (idx : Nat) (Y' : MI) (np : Nat) : Prop := Cond.methodLink own idx Y'.1 ∈ xw ∧ Cond.initialized Y'.1.cls ∈ xw ∧ Cond.code Y'.1 Y'.2.1 Y'.2.2.1 Y'.2.2.2.1 ∈ xw ∧
  (Y'.1.cls ≠ "java/lang/invoke/MethodHandle" ∧ Y'.1.cls ≠ "java/lang/invoke/VarHandle") ∧ (parseMethodDescriptor Y'.1.desc).map (fun d => d.parameters.length) = some np ∧ Y'.2.2.1 ≤ 45
def xLs (own : String) (idx : Nat) (Y' : MI) (np : Nat) : Prop := xLk own idx Y' np ∧ Cond.static Y'.1 ∈ xw
def xLv (own : String) (idx : Nat) (Y' : MI) (np : Nat) : Prop := xLk own idx Y' np ∧ Cond.instanceMethod Y'.1 ∈ xw ∧ Cond.selects Y'.1.cls Y'.1 Y'.1 ∈ xw
def xLi (own : String) (idx : Nat) (Y' : MI) (np : Nat) : Prop := xLk own idx Y' np ∧ Cond.instanceMethod Y'.1 ∈ xw ∧ Y'.1.name = "<init>"
/-- a method of an object of class C, which the pool names by x; owner has x's code, C selects Y' -/
def xLu (own : String) (idx : Nat) (C : String) (x : MethodName) (Y0 Y' : MI) (np : Nat) : Prop := Cond.methodLink own idx x ∈ xw ∧ Cond.sameMethod x.cls Y0.1.cls x.name x.desc ∈ xw ∧ (Y0.1 = ⟨Y0.1.cls, x.name, x.desc⟩ ∧ Cond.instanceMethod Y0.1 ∈ xw ∧ Cond.code Y0.1 Y0.2.1 Y0.2.2.1 Y0.2.2.2.1 ∈ xw) ∧
  Cond.selects C x Y'.1 ∈ xw ∧ Cond.instanceMethod Y'.1 ∈ xw ∧ Cond.initialized Y'.1.cls ∈ xw ∧ Cond.code Y'.1 Y'.2.1 Y'.2.2.1 Y'.2.2.2.1 ∈ xw ∧
  (Y0.1.cls ≠ "java/lang/invoke/MethodHandle" ∧ Y0.1.cls ≠ "java/lang/invoke/VarHandle") ∧ (parseMethodDescriptor x.desc).map (fun d => d.parameters.length) = some np ∧ Y'.2.2.1 ≤ 45
/-- super.y() -/
def xLsu (own : String) (idx : Nat) (Y' : MI) (np : Nat) : Prop := Cond.methodLink own idx Y'.1 ∈ xw ∧ Cond.sameMethod Y'.1.cls Y'.1.cls Y'.1.name Y'.1.desc ∈ xw ∧ Cond.superclass own Y'.1.cls ∈ xw ∧ Cond.instanceMethod Y'.1 ∈ xw ∧ Cond.initialized Y'.1.cls ∈ xw ∧ Cond.code Y'.1 Y'.2.1 Y'.2.2.1 Y'.2.2.2.1 ∈ xw ∧ Y'.1.name ≠ "<init>" ∧ (parseMethodDescriptor Y'.1.desc).map (fun d => d.parameters.length) = some np ∧ Y'.2.2.1 ≤ 45
theorem cPre_blind {G : xG} {as : List Value} {n : Nat} {K : Nat → Nat × Nat} {I : Nat → Nat → Int32} {P : Nat → Nat → Option Nat} : FrameBlind (cPre G as n K I P) := fun a U g mk h => ⟨h.1, h.2.1, xK.same (u := U) rfl h.2.2⟩
section AS
variable {G : xG} {X : xC} {Y Y' : MI} {d d' mc ms mc' ms' n np idx a : Nat} {cs : List (Int32 × Nat)} {K : Nat → Nat × Nat} {I : Nat → Nat → Int32} {P : Nat → Nat → Option Nat} {cells slots pc nx r : Nat} {lv st as rest : List Value} {Post' : xPost}
theorem xrun {p : Program} {l : Launch} {e : Env} {R : Room} {s : State} {m : MethodId} {args : Array Value} {below : List Frame} {meth : Method} {c : Code} {Q : State → Prop} {H : Heap} {locs : List Loc} {ls : Array Slot} {st0 rest0 : List Value} {av : Array Value}
    (hr : va_Run p l e R s m args below meth c H locs cells slots mc' ms' (F0 m pc ls st0) rest0 (cPost G Post' av) (xA G)) (hlo : ∀ q ∈ locs, xA G q.base)
    (kk : ∀ v n' K' I' P' H1 locs1, Post' v n' K' I' P' → xR G n' K' I' P' H1 → (∀ q ∈ locs1, xA G q.base) → W p l e R s m args below meth c H1 locs1 (cells + mc') (slots + ms') Q (F0 m (pc + 3) ls ((v.map (xv G)).toList ++ rest0))) : W p l e R s m args below meth c H locs cells slots Q (F0 m pc ls st0) := by
  intro T hT X
  obtain ⟨v, st₀, t, T', L, h0, X', hL, e1, e2, ⟨v', n', K', I', P', hv, hp, hR'⟩, stp⟩ := hr T hT X
  cases hv
  obtain ⟨t2, a1, b1⟩ := kk v' n' K' I' P' T'.heap (locs ++ L) hp (by rw [e1]; exact hR') (fun q hq => by
    rcases List.mem_append.mp hq with h | h
    · exact hlo q h
    · exact hL q h) T' rfl X'
  exact ⟨t2, stp t2 a1, b1⟩
theorem xmono (hX : xAmb G X Y d mc ms) (hd : d' < d) (hl : Y'.2.2.1 ≤ 45) : (rmD d' mc' ms').frames + 1 ≤ X.2.2.2.1.frames ∧ 8 + (Y'.2.2.1 + 11) + (rmD d' mc' ms').locals ≤ X.2.2.2.1.locals := by
  have h1 := hX.2.2.2.2.2.2.1
  have h2 := hX.2.2.2.2.2.2.2.1
  show d' + 1 ≤ _ ∧ 8 + (Y'.2.2.1 + 11) + 64 * d' ≤ _
  omega
theorem xroom (hX : xAmb G X Y d mc ms) (hm : cells + mc' ≤ mc ∧ slots + ms' ≤ ms) : cells + mc' ≤ X.2.2.2.1.cells ∧ slots + ms' ≤ X.2.2.2.1.slots := ⟨Nat.le_trans hm.1 hX.2.2.2.2.2.2.2.2.1, Nat.le_trans hm.2 hX.2.2.2.2.2.2.2.2.2.1⟩
theorem xcats (G : xG) (l : List Value) : ((l.map (xv G)).map fun v => v.category) = l.map fun v => v.category := by
  rw [List.map_map]
  exact List.map_congr_left fun v _ => xv_cat G v
/-- a static method -/
theorem ax_S (hX : xAmb G X Y d mc ms) (hY : xpOK Y = true) (hs : xlook Y.2.2.2.2.1 pc = some (.invokestatic idx, nx, a, cs)) (hl : xLs Y.1.cls idx Y' np) (hc : cM G d' Y' as n K I P mc' ms' Post') (hd' : d' < d) (hn : as.length = np) (hst : st = as.reverse ++ rest) (hr8 : (rest.map fun v => v.category).sum ≤ 8) (hm : cells + mc' ≤ mc ∧ slots + ms' ≤ ms)
    (kk : ∀ v n' K' I' P', Post' v n' K' I' P' → aW G X Y n' K' I' P' (cells + mc') (slots + ms') nx lv (v.toList ++ rest)) : aW G X Y n K I P cells slots pc lv st := by
  obtain ⟨hd, -, hlen, -⟩ := xdec hY hs
  obtain rfl : nx = pc + 3 := by simpa [xlen] using hlen
  rw [Nat.add_sub_cancel_left] at hd
  intro H locs ls hR hlo hlv
  have hts := hX.2.2.2.2.1
  obtain ⟨⟨h1, h2, h3, h4, h5, h6⟩, h7⟩ := hl
  have cb := callB_of (R := X.2.2.2.1) (own := Y.1.cls) (index := idx) (y := Y'.1) (bytes := Y'.2.1) (maxL := Y'.2.2.1) (ret := Y'.2.2.2.1) (ws := cWs Y') (rm := rmD d' mc' ms') (mc := mc') (ms := ms') np hts (xgood h3) rfl rfl rfl (hts _ h2) (hts _ h1) ⟨h4.1, h4.2, h5⟩ (xmono hX hd' h6)
  refine xrun (va_runS (As := as.map (xv G)) (rest := rest.map (xv G)) ⟨hX.1, hX.2.1, hX.2.2.1, hX.2.2.2.1, hts⟩ (hc _) ⟨cb, hts _ h7⟩ ⟨cPre_blind, fun U hU hW => ⟨rfl, by rw [hU]; exact hR, hX.2.2.2.2.2.1.warm hW⟩⟩ rfl (by rw [List.length_map]; exact hn) hlv.1 (by show st.map (xv G) = _; rw [hst, List.map_append, List.map_reverse]) (lv_room (by rw [xcats]; exact hr8)) hd (xroom hX hm)) hlo ?_
  intro v n' K' I' P' H1 locs1 hp hR1 hlo1
  have k2 := kk v n' K' I' P' hp H1 locs1 ls hR1 hlo1 hlv
  rw [List.map_append] at k2
  cases v <;> exact k2
/-- a method of an object whose class is Y''s -/
theorem ax_V {c w : Nat} (hX : xAmb G X Y d mc ms) (hY : xpOK Y = true) (hs : xlook Y.2.2.2.2.1 pc = some (.invokevirtual idx, nx, a, cs)) (hl : xLv Y.1.cls idx Y' np) (hr : r < n) (hk : K r = (c, w)) (hc13 : c < 13) (hcl : Y'.1.cls = xcn c) (hc : cM G d' Y' (.ref r :: as) n K I P mc' ms' Post') (hd' : d' < d) (hn : as.length = np) (hst : st = as.reverse ++ .ref r :: rest) (hr8 : (rest.map fun v => v.category).sum ≤ 8) (hm : cells + mc' ≤ mc ∧ slots + ms' ≤ ms)
    (kk : ∀ v n' K' I' P', Post' v n' K' I' P' → aW G X Y n' K' I' P' (cells + mc') (slots + ms') nx lv (v.toList ++ rest)) : aW G X Y n K I P cells slots pc lv st := by
  obtain ⟨hd, -, hlen, -⟩ := xdec hY hs
  obtain rfl : nx = pc + 3 := by simpa [xlen] using hlen
  rw [Nat.add_sub_cancel_left] at hd
  intro H locs ls hR hlo hlv
  have hts := hX.2.2.2.2.1
  obtain ⟨⟨h1, h2, h3, h4, h5, h6⟩, h7, h8⟩ := hl
  have cb := callB_of (R := X.2.2.2.1) (own := Y.1.cls) (index := idx) (y := Y'.1) (bytes := Y'.2.1) (maxL := Y'.2.2.1) (ret := Y'.2.2.2.1) (ws := cWs Y') (rm := rmD d' mc' ms') (mc := mc') (ms := ms') np hts (xgood h3) rfl rfl rfl (hts _ h2) (hts _ h1) ⟨h4.1, h4.2, h5⟩ (xmono hX hd' h6)
  have ha := hR.at hr
  rw [xE_obj hk hc13] at ha
  have hrec := va_recv hX.2.2.2.2.2.1.1 (va_P_one ha) (xCl_get hc13) (q0 := 0) rfl
  have e1 : xmu G r = G.2.2.1 + r := xmu_new (hR.lt hr)
  rw [hcl] at h8
  refine xrun (va_runV (C := xcn c) (b := G.2.2.1 + r) (As := as.map (xv G)) (rest := rest.map (xv G)) ⟨hX.1, hX.2.1, hX.2.2.1, hX.2.2.2.1, hts⟩ (hc _) ⟨cb, hts _ h7, hts _ h8⟩ ⟨cPre_blind, hrec, fun U hU hW => ⟨by rw [← e1]; rfl, by rw [hU]; exact hR, hX.2.2.2.2.2.1.warm hW⟩⟩ rfl (by rw [List.length_map]; exact hn) hlv.1 (by show st.map (xv G) = _; rw [hst, List.map_append, List.map_reverse, ← e1]; rfl) (lv_room (by rw [xcats]; exact hr8)) hd (xroom hX hm)) hlo ?_
  intro v n' K' I' P' H1 locs1 hp hR1 hlo1
  have k2 := kk v n' K' I' P' hp H1 locs1 ls hR1 hlo1 hlv
  rw [List.map_append] at k2
  cases v <;> exact k2
/-- a method that the object's class selects -/
theorem ax_U {Y0 : MI} {x : MethodName} {c w : Nat} (hX : xAmb G X Y d mc ms) (hY : xpOK Y = true) (hs : xlook Y.2.2.2.2.1 pc = some (.invokevirtual idx, nx, a, cs)) (hl : xLu Y.1.cls idx (xcn c) x Y0 Y' np) (hr : r < n) (hk : K r = (c, w)) (hc13 : c < 13) (hc : cM G d' Y' (.ref r :: as) n K I P mc' ms' Post') (hd' : d' < d) (hn : as.length = np) (hst : st = as.reverse ++ .ref r :: rest) (hr8 : (rest.map fun v => v.category).sum ≤ 8) (hm : cells + mc' ≤ mc ∧ slots + ms' ≤ ms)
    (kk : ∀ v n' K' I' P', Post' v n' K' I' P' → aW G X Y n' K' I' P' (cells + mc') (slots + ms') nx lv (v.toList ++ rest)) : aW G X Y n K I P cells slots pc lv st := by
  obtain ⟨hd, -, hlen, -⟩ := xdec hY hs
  obtain rfl : nx = pc + 3 := by simpa [xlen] using hlen
  rw [Nat.add_sub_cancel_left] at hd
  intro H locs ls hR hlo hlv
  have hts := hX.2.2.2.2.1
  obtain ⟨h1, h2, ⟨g0, g1, g2⟩, h3, h4, h5, h6, h7, h8, h9⟩ := hl
  have ha := hR.at hr
  rw [xE_obj hk hc13] at ha
  have hrec := va_recv hX.2.2.2.2.2.1.1 (va_P_one ha) (xCl_get hc13) (q0 := 0) rfl
  have e1 : xmu G r = G.2.2.1 + r := xmu_new (hR.lt hr)
  have hxm := xmono (mc' := mc') (ms' := ms') hX hd' h9
  have hdecl : va_Decl X.2.2.2.2.1 ⟨Y0.1.cls, x.name, x.desc⟩ := by
    rw [← g0]
    exact va_Decl.of (hts _ g1) (hts _ g2)
  have cu : va_CU X.2.2.2.1 X.2.2.2.2.1 X.2.2.2.2.2.2.1 Y.1.cls (xcn c) Y0.1.cls idx x Y'.1 Y'.2.1 Y'.2.2.1 Y'.2.2.2.1 (cWs Y') (rmD d' mc' ms') mc' ms' np :=
    ⟨⟨rfl, rfl, hxm.1, hxm.2, pay_in hts (xgood h6), List.mem_cons_self⟩, hts _ h6, hts _ h5, h7, fun sig h => by
      rw [h] at h8
      exact (Option.some.inj h8).symm, hts _ h1, hts _ h2, hdecl, hts _ h3, hts _ h4⟩
  refine xrun (va_runU (C := xcn c) (b := G.2.2.1 + r) (As := as.map (xv G)) (rest := rest.map (xv G)) ⟨hX.1, hX.2.1, hX.2.2.1, hX.2.2.2.1, hts⟩ (hc _) cu ⟨cPre_blind, hrec, fun U hU hW => ⟨by rw [← e1]; rfl, by rw [hU]; exact hR, hX.2.2.2.2.2.1.warm hW⟩⟩ rfl (by rw [List.length_map]; exact hn) hlv.1 (by show st.map (xv G) = _; rw [hst, List.map_append, List.map_reverse, ← e1]; rfl) (lv_room (by rw [xcats]; exact hr8)) hd (xroom hX hm)) hlo ?_
  intro v n' K' I' P' H1 locs1 hp hR1 hlo1
  have k2 := kk v n' K' I' P' hp H1 locs1 ls hR1 hlo1 hlv
  rw [List.map_append] at k2
  cases v <;> exact k2
/-- super.y(): the receiver's class is c -/
theorem ax_SU {c w : Nat} (hX : xAmb G X Y d mc ms) (hY : xpOK Y = true) (hs : xlook Y.2.2.2.2.1 pc = some (.invokespecial idx, nx, a, cs)) (hl : xLsu Y.1.cls idx Y' np) (hr : r < n) (hk : K r = (c, w)) (hc13 : c < 13) (hc : cM G d' Y' (.ref r :: as) n K I P mc' ms' Post') (hd' : d' < d) (hn : as.length = np) (hst : st = as.reverse ++ .ref r :: rest) (hr8 : (rest.map fun v => v.category).sum ≤ 8) (hm : cells + mc' ≤ mc ∧ slots + ms' ≤ ms)
    (kk : ∀ v n' K' I' P', Post' v n' K' I' P' → aW G X Y n' K' I' P' (cells + mc') (slots + ms') nx lv (v.toList ++ rest)) : aW G X Y n K I P cells slots pc lv st := by
  obtain ⟨hd, -, hlen, -⟩ := xdec hY hs
  obtain rfl : nx = pc + 3 := by simpa [xlen] using hlen
  rw [Nat.add_sub_cancel_left] at hd
  intro H locs ls hR hlo hlv
  have hts := hX.2.2.2.2.1
  obtain ⟨h1, h2, h3, h4, h5, h6, h7, h8, h9⟩ := hl
  have ha := hR.at hr
  rw [xE_obj hk hc13] at ha
  have hK := hX.2.2.2.2.2.1.1
  have hrec := va_recv hK (va_P_one ha) (xCl_get hc13) (q0 := 0) rfl
  have e1 : xmu G r = G.2.2.1 + r := xmu_new (hR.lt hr)
  have hxm := xmono (mc' := mc') (ms' := ms') hX hd' h9
  have cu : va_CS X.2.2.2.1 X.2.2.2.2.1 X.2.2.2.2.2.2.1 Y.1.cls idx Y'.1 Y'.2.1 Y'.2.2.1 Y'.2.2.2.1 (cWs Y') (rmD d' mc' ms') mc' ms' np :=
    ⟨⟨rfl, rfl, hxm.1, hxm.2, pay_in hts (xgood h6), List.mem_cons_self⟩, hts _ h1, hts _ h2, hts _ h3, hts _ h4, hts _ h5, hts _ h6, h7, fun sig h => by
      rw [h] at h8
      exact (Option.some.inj h8).symm⟩
  refine xrun (va_runSU (C := xcn c) (b := G.2.2.1 + r) (As := as.map (xv G)) (rest := rest.map (xv G)) (hK.1 c _ (xCl_get hc13)).2 ⟨hX.1, hX.2.1, hX.2.2.1, hX.2.2.2.1, hts⟩ (hc _) cu ⟨cPre_blind, hrec, fun U hU hW => ⟨by rw [← e1]; rfl, by rw [hU]; exact hR, hX.2.2.2.2.2.1.warm hW⟩⟩ rfl (by rw [List.length_map]; exact hn) hlv.1 (by show st.map (xv G) = _; rw [hst, List.map_append, List.map_reverse, ← e1]; rfl) (lv_room (by rw [xcats]; exact hr8)) hd (xroom hX hm)) hlo ?_
  intro v n' K' I' P' H1 locs1 hp hR1 hlo1
  have k2 := kk v n' K' I' P' hp H1 locs1 ls hR1 hlo1 hlv
  rw [List.map_append] at k2
  cases v <;> exact k2
/-- a constructor -/
theorem ax_I (hX : xAmb G X Y d mc ms) (hY : xpOK Y = true) (hs : xlook Y.2.2.2.2.1 pc = some (.invokespecial idx, nx, a, cs)) (hl : xLi Y.1.cls idx Y' np) (hret : Y'.2.2.2.1 = none) (hr : r < 1000000) (hc : cM G d' Y' (.ref r :: as) n K I P mc' ms' Post') (hd' : d' < d) (hn : as.length = np) (hst : st = as.reverse ++ .ref r :: rest) (hr8 : (rest.map fun v => v.category).sum ≤ 8) (hm : cells + mc' ≤ mc ∧ slots + ms' ≤ ms)
    (kk : ∀ v n' K' I' P', Post' v n' K' I' P' → aW G X Y n' K' I' P' (cells + mc') (slots + ms') nx lv (v.toList ++ rest)) : aW G X Y n K I P cells slots pc lv st := by
  obtain ⟨hd, -, hlen, -⟩ := xdec hY hs
  obtain rfl : nx = pc + 3 := by simpa [xlen] using hlen
  rw [Nat.add_sub_cancel_left] at hd
  intro H locs ls hR hlo hlv
  have hts := hX.2.2.2.2.1
  obtain ⟨⟨h1, h2, h3, h4, h5, h6⟩, h7, h8⟩ := hl
  have cb := callB_of (R := X.2.2.2.1) (own := Y.1.cls) (index := idx) (y := Y'.1) (bytes := Y'.2.1) (maxL := Y'.2.2.1) (ret := Y'.2.2.2.1) (ws := cWs Y') (rm := rmD d' mc' ms') (mc := mc') (ms := ms') np hts (xgood h3) rfl rfl rfl (hts _ h2) (hts _ h1) ⟨h4.1, h4.2, h5⟩ (xmono hX hd' h6)
  have e1 : xmu G r = G.2.2.1 + r := xmu_new hr
  rw [hret] at cb
  refine xrun (va_runI (b := G.2.2.1 + r) (As := as.map (xv G)) (rest := rest.map (xv G)) ⟨hX.1, hX.2.1, hX.2.2.1, hX.2.2.2.1, hts⟩ (hc _) ⟨cb, h8, hts _ h7⟩ ⟨cPre_blind, fun U hU hW => ⟨by rw [← e1]; rfl, by rw [hU]; exact hR, hX.2.2.2.2.2.1.warm hW⟩⟩ rfl (by rw [List.length_map]; exact hn) hlv.1 (by show st.map (xv G) = _; rw [hst, List.map_append, List.map_reverse, ← e1]; rfl) (lv_room (by rw [xcats]; exact hr8)) hd (xroom hX hm)) hlo ?_
  intro v n' K' I' P' H1 locs1 hp hR1 hlo1
  have k2 := kk v n' K' I' P' hp H1 locs1 ls hR1 hlo1 hlv
  rw [List.map_append] at k2
  cases v <;> exact k2
/-- Object's constructor -/
theorem ax_obj (hX : xAmb G X Y d mc ms) (hY : xpOK Y = true) (hs : xlook Y.2.2.2.2.1 pc = some (.invokespecial idx, nx, a, cs)) (hl : Cond.methodLink Y.1.cls idx Lib.objectInit ∈ xw ∧ Cond.instanceMethod Lib.objectInit ∈ xw ∧ Cond.code Lib.objectInit ⟨#[0xb1]⟩ 1 none ∈ xw) (hd1 : 0 < d) (hr8 : (st.map fun v => v.category).sum ≤ 8)
    (kk : aW G X Y n K I P cells slots nx lv st) : aW G X Y n K I P cells slots pc lv (.ref r :: st) := by
  obtain ⟨hd, -, hlen, -⟩ := xdec hY hs
  obtain rfl : nx = pc + 3 := by simpa [xlen] using hlen
  rw [Nat.add_sub_cancel_left] at hd
  intro H locs ls hR hlo hlv
  have hts := hX.2.2.2.2.1
  have h1 := hX.2.2.2.2.2.2.1
  have h2 := hX.2.2.2.2.2.2.2.1
  refine W.objInit hX.1 hX.2.1 hX.2.2.2.1 (hts _ hl.1) (hts _ hl.2.1) (hts _ hl.2.2) rfl (hlv.1.trans hX.2.2.1.symm) rfl hd (by omega) ?_ (kk H locs ls hR hlo hlv)
  show 2 * 0 + ((st.map (xv G)).map fun v => v.category).sum + 12 ≤ _
  rw [xcats]
  omega
end AS
