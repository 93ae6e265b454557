/-! the abstract judgement: the machine, at pc with these locals and this stack, over a heap that holds these cells, comes to its end -/
abbrev xC : Type := Program × Launch × Env × Room × State × MethodId × Array Value × List Frame × Method × Code × (State → Prop)
def aW (G : xG) (X : xC) (Y : MI) (n : Nat) (K : Nat → Nat × Nat) (I : Nat → Nat → Int32) (P : Nat → Nat → Option Nat) (cells slots pc : Nat) (lv st : List Value) : Prop :=
  ∀ (H : Heap) (locs : List Loc) (ls : Array Slot), xR G n K I P H → (∀ q ∈ locs, xA G q.base) → xlv G ls Y.2.2.1 lv →
    W X.1 X.2.1 X.2.2.1 X.2.2.2.1 X.2.2.2.2.1 X.2.2.2.2.2.1 X.2.2.2.2.2.2.1 X.2.2.2.2.2.2.2.1 X.2.2.2.2.2.2.2.2.1 X.2.2.2.2.2.2.2.2.2.1 H locs cells slots X.2.2.2.2.2.2.2.2.2.2 (F0 X.2.2.2.2.2.1 pc ls (st.map (xv G)))
/-- what stands round a method's body: d frames' room -/
def xAmb (G : xG) (X : xC) (Y : MI) (d mc ms : Nat) : Prop :=
  X.1.tables.exec = Jvm.exec ∧ X.2.2.2.2.2.2.2.2.2.1.code = Y.2.1 ∧ X.2.2.2.2.2.2.2.2.2.1.maxLocals = Y.2.2.1 ∧ X.2.2.2.2.1.vm.findClass Y.1.cls = some X.2.2.2.2.2.1.cls ∧ (∀ w ∈ xw, w.before X.2.2.2.2.2.2.1 X.2.2.2.2.1 = true) ∧ xK G X.2.2.2.2.1 ∧
  d ≤ X.2.2.2.1.frames ∧ 64 * d ≤ X.2.2.2.1.locals ∧ mc ≤ X.2.2.2.1.cells ∧ ms ≤ X.2.2.2.1.slots ∧ X.2.2.2.2.2.2.2.2.1.name = Y.1.name
theorem xpush_some {nx : Nat} {lv st : List Value} {cs : List (Int32 × Nat)} {z : Nat × List Value × List Value} (h : xpush nx lv cs st = some z) : ∃ v t r, cs = (v, t) :: r ∧ z = (nx, lv, .int v :: st) := by
  unfold xpush at h; split at h
  · cases h; exact ⟨_, _, _, rfl, rfl⟩
  · cases h
theorem xbin_some {nx : Nat} {lv st : List Value} {f : Int32 → Int32 → Int32} {z : Nat × List Value × List Value} (h : xbin nx lv f st = some z) : ∃ x y r, st = .int y :: .int x :: r ∧ z = (nx, lv, .int (f x y) :: r) := by
  unfold xbin at h; split at h
  · cases h; exact ⟨_, _, _, rfl, rfl⟩
  · cases h
theorem xun_some {nx : Nat} {lv st : List Value} {f : Int32 → Int32} {z : Nat × List Value × List Value} (h : xun nx lv f st = some z) : ∃ x r, st = .int x :: r ∧ z = (nx, lv, .int (f x) :: r) := by
  unfold xun at h; split at h
  · cases h; exact ⟨_, _, rfl, rfl⟩
  · cases h
theorem xlbin_some {nx : Nat} {lv st : List Value} {f : Int64 → Int64 → Int64} {z : Nat × List Value × List Value} (h : xlbin nx lv f st = some z) : ∃ x y r, st = .long y :: .long x :: r ∧ z = (nx, lv, .long (f x y) :: r) := by
  unfold xlbin at h; split at h
  · cases h; exact ⟨_, _, _, rfl, rfl⟩
  · cases h
theorem xlsh_some {nx : Nat} {lv st : List Value} {f : Int64 → Int32 → Int64} {z : Nat × List Value × List Value} (h : xlsh nx lv f st = some z) : ∃ x y r, st = .int y :: .long x :: r ∧ z = (nx, lv, .long (f x y) :: r) := by
  unfold xlsh at h; split at h
  · cases h; exact ⟨_, _, _, rfl, rfl⟩
  · cases h
theorem xildi_some {nx a : Nat} {lv st : List Value} {z : Nat × List Value × List Value} (h : xildi nx lv a st = some z) : ∃ x, xget lv a = .int x ∧ z = (nx, lv, .int x :: st) := by
  unfold xildi at h; split at h
  · next x hx => cases h; exact ⟨x, hx, rfl⟩
  · cases h
theorem xildl_some {nx a : Nat} {lv st : List Value} {z : Nat × List Value × List Value} (h : xildl nx lv a st = some z) : ∃ x, xget lv a = .long x ∧ z = (nx, lv, .long x :: st) := by
  unfold xildl at h; split at h
  · next x hx => cases h; exact ⟨x, hx, rfl⟩
  · cases h
theorem xilda_some {nx a : Nat} {lv st : List Value} {z : Nat × List Value × List Value} (h : xilda nx lv a st = some z) : ∃ x, xget lv a = .ref x ∧ z = (nx, lv, .ref x :: st) := by
  unfold xilda at h; split at h
  · next x hx => cases h; exact ⟨x, hx, rfl⟩
  · cases h
theorem xbif {α : Type} {b c : Bool} {v z : α} (h : (bif b && c then some v else none) = some z) : b = true ∧ c = true ∧ z = v := by
  cases b <;> cases c <;> simp at h
  exact ⟨rfl, rfl, h.symm⟩
theorem xisti_some {nL nx a : Nat} {lv st : List Value} {z : Nat × List Value × List Value} (h : xisti nL nx lv a st = some z) : ∃ x r, st = .int x :: r ∧ a < nL ∧ xfree lv a = true ∧ z = (nx, xset lv a (.int x), r) := by
  unfold xisti at h; split at h
  · obtain ⟨h1, h2, h3⟩ := xbif h
    exact ⟨_, _, rfl, by simpa [Nat.blt_eq] using h1, h2, h3⟩
  · cases h
theorem xista_some {nL nx a : Nat} {lv st : List Value} {z : Nat × List Value × List Value} (h : xista nL nx lv a st = some z) : ∃ x r, st = .ref x :: r ∧ a < nL ∧ xfree lv a = true ∧ z = (nx, xset lv a (.ref x), r) := by
  unfold xista at h; split at h
  · obtain ⟨h1, h2, h3⟩ := xbif h
    exact ⟨_, _, rfl, by simpa [Nat.blt_eq] using h1, h2, h3⟩
  · cases h
theorem xistl_some {nL nx a : Nat} {lv st : List Value} {z : Nat × List Value × List Value} (h : xistl nL nx lv a st = some z) : ∃ x r, st = .long x :: r ∧ a + 1 < nL ∧ xfree lv a = true ∧ z = (nx, xset (xset lv a (.long x)) (a + 1) .null, r) := by
  unfold xistl at h; split at h
  · obtain ⟨h1, h2, h3⟩ := xbif h
    exact ⟨_, _, rfl, by simpa [Nat.blt_eq] using h1, h2, h3⟩
  · cases h
theorem xinc_some {nL nx a : Nat} {lv st : List Value} {cs : List (Int32 × Nat)} {z : Nat × List Value × List Value} (h : xinc nL nx lv a cs st = some z) : ∃ v t r x, cs = (v, t) :: r ∧ xget lv a = .int x ∧ a < nL ∧ xfree lv a = true ∧ z = (nx, xset lv a (.int (x + v)), st) := by
  unfold xinc at h; split at h
  · split at h
    · next x hx =>
      obtain ⟨h1, h2, h3⟩ := xbif h
      exact ⟨_, _, _, x, rfl, hx, by simpa [Nat.blt_eq] using h1, h2, h3⟩
    · cases h
  · cases h
theorem xdup_some {nx : Nat} {lv st : List Value} {z : Nat × List Value × List Value} (h : xdup nx lv st = some z) : ∃ v r, v.category = 1 ∧ st = v :: r ∧ z = (nx, lv, v :: v :: r) := by
  unfold xdup at h; split at h
  · cases h; exact ⟨_, _, rfl, rfl, rfl⟩
  · cases h; exact ⟨_, _, rfl, rfl, rfl⟩
  · cases h
theorem xdup2_some {nx : Nat} {lv st : List Value} {z : Nat × List Value × List Value} (h : xdup2 nx lv st = some z) : ∃ v w r, v.category = 1 ∧ w.category = 1 ∧ st = v :: w :: r ∧ z = (nx, lv, v :: w :: v :: w :: r) := by
  unfold xdup2 at h; split at h
  · cases h; exact ⟨_, _, _, rfl, rfl, rfl, rfl⟩
  · cases h; exact ⟨_, _, _, rfl, rfl, rfl, rfl⟩
  · cases h
theorem xpop_some {nx : Nat} {lv st : List Value} {z : Nat × List Value × List Value} (h : xpop nx lv st = some z) : ∃ v r, v.category = 1 ∧ st = v :: r ∧ z = (nx, lv, r) := by
  unfold xpop at h; split at h
  · cases h; exact ⟨_, _, rfl, rfl, rfl⟩
  · cases h; exact ⟨_, _, rfl, rfl, rfl⟩
  · cases h
theorem xsw_some {a : Nat} {cs : List (Int32 × Nat)} {lv st : List Value} {z : Nat × List Value × List Value} (h : xsw a cs lv st = some z) : ∃ x r, st = .int x :: r ∧ z = (xtsw x cs a, lv, r) := by
  unfold xsw at h; split at h
  · cases h; exact ⟨_, _, rfl, rfl⟩
  · cases h
theorem xif_some {nx a : Nat} {cd : ClassFile.Cond} {lv st : List Value} {z : Nat × List Value × List Value} (h : xif nx a lv cd st = some z) : ∃ x r, st = .int x :: r ∧ xif nx a lv cd (.int x :: r) = some z := by
  unfold xif at h; split at h
  · next x r => exact ⟨x, r, rfl, h⟩
  · cases h
theorem xicmp_some {nx a : Nat} {cd : ClassFile.Cond} {lv st : List Value} {z : Nat × List Value × List Value} (h : xicmp nx a lv cd st = some z) : ∃ x y r, st = .int y :: .int x :: r ∧ xicmp nx a lv cd (.int y :: .int x :: r) = some z := by
  unfold xicmp at h; split at h
  · next y x r => exact ⟨x, y, r, rfl, h⟩
  · cases h
set_option maxHeartbeats 4000000 in
/-- ONE PLAIN STEP -/
theorem ax_step {G : xG} {X : xC} {Y : MI} {d mc ms n : Nat} {K : Nat → Nat × Nat} {I : Nat → Nat → Int32} {P : Nat → Nat → Option Nat} {cells slots pc : Nat} {lv st : List Value} {z : Nat × List Value × List Value}
    (hX : xAmb G X Y d mc ms) (hY : xpOK Y = true) (hs : xstep Y pc lv st = some z) (kk : aW G X Y n K I P cells slots z.1 z.2.1 z.2.2) : aW G X Y n K I P cells slots pc lv st := by
  obtain ⟨p, l, e, R, s, m, args, below, meth, c, Q⟩ := X
  obtain ⟨y, cc, nL, ret, prog, oc⟩ := Y
  intro H locs ls hR hlo hlv
  have kk' := fun ls' h => kk H locs ls' hR hlo h
  obtain ⟨hx, hb, hml, hown, hts, hK, -⟩ := hX
  dsimp only at hx hb hml hown hts hK hlv kk' ⊢
  unfold xstep at hs
  dsimp only at hs
  split at hs
  · next ins nx a cs hl =>
    obtain ⟨hd, hlt, hlen, hok⟩ := xdec hY hl
    dsimp only at hd hok
    cases ins
    case iconst q =>
      obtain ⟨v, t, r, rfl, rfl⟩ := xpush_some hs
      simp only [xlen, xopOK, decide_eq_true_eq] at hlen hok
      obtain rfl : nx = pc + 1 := by omega
      exact lv_iconst hx hb (by simpa using hd) hok (kk' ls hlv)
    case bipush q =>
      obtain ⟨v, t, r, rfl, rfl⟩ := xpush_some hs
      simp only [xlen, xopOK, decide_eq_true_eq] at hlen hok
      obtain rfl : nx = pc + 2 := by omega
      exact lv_bipush hx hb (by simpa using hd) hok (kk' ls hlv)
    case sipush q =>
      obtain ⟨v, t, r, rfl, rfl⟩ := xpush_some hs
      simp only [xlen, xopOK, decide_eq_true_eq] at hlen hok
      obtain rfl : nx = pc + 3 := by omega
      exact lv_sipush hx hb (by simpa using hd) hok (kk' ls hlv)
    case ldc q =>
      obtain ⟨v, t, r, rfl, rfl⟩ := xpush_some hs
      simp only [xlen, xopOK, decide_eq_true_eq] at hlen hok
      obtain rfl : nx = pc + 2 := by omega
      exact lv_ldc hx hb hown (hts _ (xw_of (List.mem_of_getElem? hok) rfl)) (by simpa using hd) (kk' ls hlv)
    case ldc_w q =>
      obtain ⟨v, t, r, rfl, rfl⟩ := xpush_some hs
      simp only [xlen, xopOK, decide_eq_true_eq] at hlen hok
      obtain rfl : nx = pc + 3 := by omega
      exact lv_ldcw hx hb hown (hts _ (xw_of (List.mem_of_getElem? hok) rfl)) (by simpa using hd) (kk' ls hlv)
    case lconst q =>
      cases hs
      simp only [xlen, xopOK, decide_eq_true_eq] at hlen hok
      obtain rfl : nx = pc + 1 := by omega
      exact lv_lconst hx hb (by simpa using hd) (by rw [hok]) (kk' ls hlv)
    case ldc2_w q =>
      cases hs
      simp only [xlen] at hlen
      obtain rfl : nx = pc + 3 := by omega
      simp only [xopOK] at hok
      split at hok
      · simp only [decide_eq_true_eq] at hok
        exact lv_ldc2 hx hb hown (hts _ (xw_of (List.mem_of_getElem? hok) rfl)) (by simpa using hd) (kk' ls hlv)
      · cases hok
    case iload q =>
      obtain ⟨x, hg, rfl⟩ := xildi_some hs
      simp only [xlen, xopOK, decide_eq_true_eq] at hlen hok
      obtain rfl : nx = pc + 2 := by omega
      subst hok
      have h1 := hlv.2.2 q (by rw [hg]; simp)
      rw [hg] at h1
      exact lv_iload hx hb (by simpa using hd) h1 (kk' ls hlv)
    case iload_n q =>
      obtain ⟨x, hg, rfl⟩ := xildi_some hs
      simp only [xlen, xopOK, decide_eq_true_eq] at hlen hok
      obtain rfl : nx = pc + 1 := by omega
      have h1 := hlv.2.2 a (by rw [hg]; simp)
      rw [hg] at h1
      exact lv_iload_n hx hb (by simpa using hd) hok h1 (kk' ls hlv)
    case lload q =>
      obtain ⟨x, hg, rfl⟩ := xildl_some hs
      simp only [xlen, xopOK, decide_eq_true_eq] at hlen hok
      obtain rfl : nx = pc + 2 := by omega
      subst hok
      have h1 := hlv.2.2 q (by rw [hg]; simp)
      rw [hg] at h1
      exact lv_lload hx hb (by simpa using hd) h1 (kk' ls hlv)
    case lload_n q =>
      obtain ⟨x, hg, rfl⟩ := xildl_some hs
      simp only [xlen, xopOK, decide_eq_true_eq] at hlen hok
      obtain rfl : nx = pc + 1 := by omega
      have h1 := hlv.2.2 a (by rw [hg]; simp)
      rw [hg] at h1
      exact lv_lload_n hx hb (by simpa using hd) hok h1 (kk' ls hlv)
    case aload q =>
      obtain ⟨x, hg, rfl⟩ := xilda_some hs
      simp only [xlen, xopOK, decide_eq_true_eq] at hlen hok
      obtain rfl : nx = pc + 2 := by omega
      subst hok
      have h1 := hlv.2.2 q (by rw [hg]; simp)
      rw [hg] at h1
      exact lv_aload hx hb (by simpa using hd) h1 (kk' ls hlv)
    case aload_n q =>
      obtain ⟨x, hg, rfl⟩ := xilda_some hs
      simp only [xlen, xopOK, decide_eq_true_eq] at hlen hok
      obtain rfl : nx = pc + 1 := by omega
      have h1 := hlv.2.2 a (by rw [hg]; simp)
      rw [hg] at h1
      exact lv_aload_n hx hb (by simpa using hd) hok h1 (kk' ls hlv)
    case istore q =>
      obtain ⟨x, r, rfl, hn, hf, rfl⟩ := xisti_some hs
      simp only [xlen, xopOK, decide_eq_true_eq] at hlen hok
      obtain rfl : nx = pc + 2 := by omega
      subst hok
      exact lv_istore hx hb (by simpa using hd) hlv.has hn rfl (fun ls' h => kk' ls' (xlv.put1 (v := .int x) hf h))
    case istore_n q =>
      obtain ⟨x, r, rfl, hn, hf, rfl⟩ := xisti_some hs
      simp only [xlen, xopOK, decide_eq_true_eq] at hlen hok
      obtain rfl : nx = pc + 1 := by omega
      exact lv_istore_n hx hb (by simpa using hd) hok hlv.has hn rfl (fun ls' h => kk' ls' (xlv.put1 (v := .int x) hf h))
    case astore q =>
      obtain ⟨x, r, rfl, hn, hf, rfl⟩ := xista_some hs
      simp only [xlen, xopOK, decide_eq_true_eq] at hlen hok
      obtain rfl : nx = pc + 2 := by omega
      subst hok
      exact lv_astore hx hb (by simpa using hd) hlv.has hn rfl (fun ls' h => kk' ls' (xlv.put1 (v := .ref x) hf h))
    case astore_n q =>
      obtain ⟨x, r, rfl, hn, hf, rfl⟩ := xista_some hs
      simp only [xlen, xopOK, decide_eq_true_eq] at hlen hok
      obtain rfl : nx = pc + 1 := by omega
      exact lv_astore_n hx hb (by simpa using hd) hok hlv.has hn rfl (fun ls' h => kk' ls' (xlv.put1 (v := .ref x) hf h))
    case lstore q =>
      obtain ⟨x, r, rfl, hn, hf, rfl⟩ := xistl_some hs
      simp only [xlen, xopOK, decide_eq_true_eq] at hlen hok
      obtain rfl : nx = pc + 2 := by omega
      subst hok
      exact lv_lstore hx hb (by simpa using hd) hlv.has hn rfl (fun ls' h => kk' ls' (xlv.put2 (v := .long x) hf h))
    case iinc q w =>
      obtain ⟨v, t, r, x, rfl, hg, hn, hf, rfl⟩ := xinc_some hs
      simp only [xlen, xopOK, Bool.and_eq_true, decide_eq_true_eq] at hlen hok
      obtain rfl : nx = pc + 3 := by omega
      obtain ⟨rfl, hv⟩ := hok
      have h1 := hlv.2.2 q (by rw [hg]; simp)
      rw [hg] at h1
      have hlv2 : lv_has ls nL ((q, .int x) :: xpl G lv) := ⟨hlv.1, hlv.2.1, fun u hu => by
        rcases List.mem_cons.mp hu with rfl | hu
        · exact h1
        · exact hlv.has.2.2 u hu⟩
      refine lv_iinc (k := 0) hx hb (by simpa using hd) hlv2 rfl rfl hn rfl (fun ls' h => kk' ls' (xlv.put1 (v := .int (x + v)) hf ?_))
      have h2 : ((q, Value.int x) :: xpl G lv).filter (fun u => !(u.1 == q) && !(u.1 + 1 == q && u.2.category == 2)) = (xpl G lv).filter (fun u => !(u.1 == q) && !(u.1 + 1 == q && u.2.category == 2)) := by
        rw [List.filter_cons]; simp
      rw [h2, hv] at h
      exact h
    case iadd =>
      obtain ⟨x, y, r, rfl, rfl⟩ := xbin_some hs
      simp only [xlen] at hlen
      obtain rfl : nx = pc + 1 := by omega
      exact lv_iadd hx hb (by simpa using hd) (kk' ls hlv)
    case isub =>
      obtain ⟨x, y, r, rfl, rfl⟩ := xbin_some hs
      simp only [xlen] at hlen
      obtain rfl : nx = pc + 1 := by omega
      exact lv_isub hx hb (by simpa using hd) (kk' ls hlv)
    case imul =>
      obtain ⟨x, y, r, rfl, rfl⟩ := xbin_some hs
      simp only [xlen] at hlen
      obtain rfl : nx = pc + 1 := by omega
      exact lv_imul hx hb (by simpa using hd) (kk' ls hlv)
    case iand =>
      obtain ⟨x, y, r, rfl, rfl⟩ := xbin_some hs
      simp only [xlen] at hlen
      obtain rfl : nx = pc + 1 := by omega
      exact lv_iand hx hb (by simpa using hd) (kk' ls hlv)
    case ior =>
      obtain ⟨x, y, r, rfl, rfl⟩ := xbin_some hs
      simp only [xlen] at hlen
      obtain rfl : nx = pc + 1 := by omega
      exact lv_ior hx hb (by simpa using hd) (kk' ls hlv)
    case ixor =>
      obtain ⟨x, y, r, rfl, rfl⟩ := xbin_some hs
      simp only [xlen] at hlen
      obtain rfl : nx = pc + 1 := by omega
      exact lv_ixor hx hb (by simpa using hd) (kk' ls hlv)
    case ishl =>
      obtain ⟨x, y, r, rfl, rfl⟩ := xbin_some hs
      simp only [xlen] at hlen
      obtain rfl : nx = pc + 1 := by omega
      exact lv_ishl hx hb (by simpa using hd) (kk' ls hlv)
    case ishr =>
      obtain ⟨x, y, r, rfl, rfl⟩ := xbin_some hs
      simp only [xlen] at hlen
      obtain rfl : nx = pc + 1 := by omega
      exact lv_ishr hx hb (by simpa using hd) (kk' ls hlv)
    case iushr =>
      obtain ⟨x, y, r, rfl, rfl⟩ := xbin_some hs
      simp only [xlen] at hlen
      obtain rfl : nx = pc + 1 := by omega
      exact lv_iushr hx hb (by simpa using hd) rfl (kk' ls hlv)
    case ineg =>
      obtain ⟨x, r, rfl, rfl⟩ := xun_some hs
      simp only [xlen] at hlen
      obtain rfl : nx = pc + 1 := by omega
      exact lv_ineg hx hb (by simpa using hd) (kk' ls hlv)
    case i2b =>
      obtain ⟨x, r, rfl, rfl⟩ := xun_some hs
      simp only [xlen] at hlen
      obtain rfl : nx = pc + 1 := by omega
      exact lv_i2b hx hb (by simpa using hd) rfl (kk' ls hlv)
    case i2s =>
      obtain ⟨x, r, rfl, rfl⟩ := xun_some hs
      simp only [xlen] at hlen
      obtain rfl : nx = pc + 1 := by omega
      exact lv_i2s hx hb (by simpa using hd) rfl (kk' ls hlv)
    case i2c =>
      obtain ⟨x, r, rfl, rfl⟩ := xun_some hs
      simp only [xlen] at hlen
      obtain rfl : nx = pc + 1 := by omega
      exact lv_i2c hx hb (by simpa using hd) rfl (kk' ls hlv)
    case i2l =>
      simp only [xins] at hs
      split at hs
      · cases hs
        simp only [xlen] at hlen
        obtain rfl : nx = pc + 1 := by omega
        exact lv_i2l hx hb (by simpa using hd) rfl (kk' ls hlv)
      · cases hs
    case l2i =>
      simp only [xins] at hs
      split at hs
      · cases hs
        simp only [xlen] at hlen
        obtain rfl : nx = pc + 1 := by omega
        exact lv_l2i hx hb (by simpa using hd) rfl (kk' ls hlv)
      · cases hs
    case land =>
      obtain ⟨x, y, r, rfl, rfl⟩ := xlbin_some hs
      simp only [xlen] at hlen
      obtain rfl : nx = pc + 1 := by omega
      exact lv_land hx hb (by simpa using hd) (kk' ls hlv)
    case lor =>
      obtain ⟨x, y, r, rfl, rfl⟩ := xlbin_some hs
      simp only [xlen] at hlen
      obtain rfl : nx = pc + 1 := by omega
      exact lv_lor hx hb (by simpa using hd) (kk' ls hlv)
    case lshl =>
      obtain ⟨x, y, r, rfl, rfl⟩ := xlsh_some hs
      simp only [xlen] at hlen
      obtain rfl : nx = pc + 1 := by omega
      exact lv_lshl hx hb (by simpa using hd) rfl (kk' ls hlv)
    case lshr =>
      obtain ⟨x, y, r, rfl, rfl⟩ := xlsh_some hs
      simp only [xlen] at hlen
      obtain rfl : nx = pc + 1 := by omega
      exact lv_lshr hx hb (by simpa using hd) rfl (kk' ls hlv)
    case lushr =>
      obtain ⟨x, y, r, rfl, rfl⟩ := xlsh_some hs
      simp only [xlen] at hlen
      obtain rfl : nx = pc + 1 := by omega
      exact lv_lushr hx hb (by simpa using hd) rfl (kk' ls hlv)
    case lcmp =>
      simp only [xins] at hs
      split at hs
      · cases hs
        simp only [xlen] at hlen
        obtain rfl : nx = pc + 1 := by omega
        exact W.lcmp hx hb (by simpa using hd) (kk' ls hlv)
      · cases hs
    case dup =>
      obtain ⟨v, r, hv, rfl, rfl⟩ := xdup_some hs
      simp only [xlen] at hlen
      obtain rfl : nx = pc + 1 := by omega
      exact lv_dup hx hb (by simpa using hd) (by rw [xv_cat]; exact hv) (kk' ls hlv)
    case dup2 =>
      obtain ⟨v, w, r, hv, hw, rfl, rfl⟩ := xdup2_some hs
      simp only [xlen] at hlen
      obtain rfl : nx = pc + 1 := by omega
      exact lv_dup2_11 hx hb (by simpa using hd) (by rw [xv_cat]; exact hv) (by rw [xv_cat]; exact hw) (kk' ls hlv)
    case pop =>
      obtain ⟨v, r, hv, rfl, rfl⟩ := xpop_some hs
      simp only [xlen] at hlen
      obtain rfl : nx = pc + 1 := by omega
      exact lv_pop hx hb (by simpa using hd) (by rw [xv_cat]; exact hv) (kk' ls hlv)
    case goto o =>
      cases hs
      simp only [xlen, xopOK, decide_eq_true_eq] at hlen hok
      obtain rfl : nx = pc + 3 := by omega
      exact lv_goto hx hb (by simpa using hd) hok (kk' ls hlv)
    case ifCond cd o =>
      obtain ⟨x, r, rfl, hs⟩ := xif_some hs
      simp only [xlen, xopOK, decide_eq_true_eq] at hlen hok
      obtain rfl : nx = pc + 3 := by omega
      have hd : decode cc pc = .ok (.ifCond cd o, 3) := by simpa using hd
      cases cd <;> cases hs
      · exact lv_if_eq hx hb hd hok (fun h => by have k2 := kk' ls hlv; rw [if_pos h] at k2; exact k2) (fun h => by have k2 := kk' ls hlv; rw [if_neg h] at k2; exact k2)
      · exact lv_if_ne hx hb hd hok (fun h => by have k2 := kk' ls hlv; rw [if_neg h] at k2; exact k2) (fun h => by have k2 := kk' ls hlv; rw [if_pos h] at k2; exact k2)
      · exact lv_if_lt hx hb hd hok (fun h => by have k2 := kk' ls hlv; rw [if_pos h] at k2; exact k2) (fun h => by have k2 := kk' ls hlv; rw [if_neg h] at k2; exact k2)
      · exact lv_if_ge hx hb hd hok (fun h => by have k2 := kk' ls hlv; rw [if_pos h] at k2; exact k2) (fun h => by have k2 := kk' ls hlv; rw [if_neg h] at k2; exact k2)
      · exact lv_if_gt hx hb hd hok (fun h => by have k2 := kk' ls hlv; rw [if_pos h] at k2; exact k2) (fun h => by have k2 := kk' ls hlv; rw [if_neg h] at k2; exact k2)
      · exact lv_if_le hx hb hd hok (fun h => by have k2 := kk' ls hlv; rw [if_pos h] at k2; exact k2) (fun h => by have k2 := kk' ls hlv; rw [if_neg h] at k2; exact k2)
    case if_icmp cd o =>
      obtain ⟨x, y, r, rfl, hs⟩ := xicmp_some hs
      simp only [xlen, xopOK, decide_eq_true_eq] at hlen hok
      obtain rfl : nx = pc + 3 := by omega
      have hd : decode cc pc = .ok (.if_icmp cd o, 3) := by simpa using hd
      cases cd <;> cases hs
      · exact lv_icmp_eq hx hb hd hok (fun h => by have k2 := kk' ls hlv; rw [if_pos h] at k2; exact k2) (fun h => by have k2 := kk' ls hlv; rw [if_neg h] at k2; exact k2)
      · exact lv_icmp_ne hx hb hd hok (fun h => by have k2 := kk' ls hlv; rw [if_neg h] at k2; exact k2) (fun h => by have k2 := kk' ls hlv; rw [if_pos h] at k2; exact k2)
      · exact lv_icmp_lt hx hb hd hok (fun h => by have k2 := kk' ls hlv; rw [if_pos h] at k2; exact k2) (fun h => by have k2 := kk' ls hlv; rw [if_neg h] at k2; exact k2)
      · exact lv_icmp_ge hx hb hd hok (fun h => by have k2 := kk' ls hlv; rw [if_pos h] at k2; exact k2) (fun h => by have k2 := kk' ls hlv; rw [if_neg h] at k2; exact k2)
      · exact lv_icmp_gt hx hb hd hok (fun h => by have k2 := kk' ls hlv; rw [if_pos h] at k2; exact k2) (fun h => by have k2 := kk' ls hlv; rw [if_neg h] at k2; exact k2)
      · exact lv_icmp_le hx hb hd hok (fun h => by have k2 := kk' ls hlv; rw [if_pos h] at k2; exact k2) (fun h => by have k2 := kk' ls hlv; rw [if_neg h] at k2; exact k2)
    case tableswitch df lo hi offs =>
      obtain ⟨x, r, rfl, rfl⟩ := xsw_some hs
      simp only [xopOK, Bool.and_eq_true, decide_eq_true_eq] at hok
      obtain ⟨h1, rfl, h3⟩ := hok
      rcases xts_spec (x := x) (d := a) offs.toList lo cs h3 with ⟨h4, h5⟩ | ⟨h4, h5, o, h6, h7⟩
      · exact lv_tableOut hx hb hd h4 h1 (by have k2 := kk' ls hlv; rw [h5] at k2; exact k2)
      · exact lv_tableIn hx hb hd h4 h5 (by rw [← Array.getElem?_toList]; exact h6) h7 (kk' ls hlv)
    case lookupswitch df ps =>
      obtain ⟨x, r, rfl, rfl⟩ := xsw_some hs
      simp only [xopOK, Bool.and_eq_true, decide_eq_true_eq] at hok
      obtain ⟨h1, h2, h3⟩ := hok
      exact lv_lookup hx hb hd h2 rfl (xls_spec (x := x) h1 ps.toList cs h3) (kk' ls hlv)
    all_goals exact absurd hs (by simp [xins])
  · cases hs
