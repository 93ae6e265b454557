/-! the names' strings: String.indexOf, walked over the two literals -/
def sidx (dn : Nat) (ch : Int32) : Int32 := if dn = 1000003 then (if ch = 99 then 0 else if ch = 109 then 1 else if ch = 107 then 2 else if ch = 104 then 3 else -1) else (if ch = 119 then 0 else if ch = 107 then 1 else if ch = 99 then 2 else -1)
def sxN (i : Nat) : Nat := ([4, 3] : List Nat).getD i 0
def sxB (i j : Nat) : Int32 := (([[99, 109, 107, 104], [119, 107, 99]] : List (List Int32)).getD i []).getD j 0
theorem ok_Str_length : xpOK m_Str_length = true := by decide +kernel
theorem ok_Str_indexOf : xpOK m_Str_indexOf = true := by decide +kernel
theorem ok_Str_indexOf_ : xpOK m_Str_indexOf_ = true := by decide +kernel
theorem ok_Str_coder : xpOK m_Str_coder = true := by decide +kernel
theorem ok_Str_isLatin1 : xpOK m_Str_isLatin1 = true := by decide +kernel
theorem ok_Lat_canEncode : xpOK m_Lat_canEncode = true := by decide +kernel
theorem ok_Lat_indexOf : xpOK m_Lat_indexOf = true := by decide +kernel
theorem ok_Lat_indexOfChar : xpOK m_Lat_indexOfChar = true := by decide +kernel
theorem l_Text_72 : xLv "HandOverHorse$Text" 72 m_Str_indexOf 1 := ⟨xLk_of 770 89 773 (by decide +kernel), xw_at 771 (by decide +kernel), xw_at 772 (by decide +kernel)⟩
theorem l_Str_633 : xLv "java/lang/String" 633 m_Str_indexOf_ 2 := ⟨xLk_of 774 89 777 (by decide +kernel), xw_at 775 (by decide +kernel), xw_at 776 (by decide +kernel)⟩
theorem l_Str_492 : xLv "java/lang/String" 492 m_Str_isLatin1 0 := ⟨xLk_of 778 89 781 (by decide +kernel), xw_at 779 (by decide +kernel), xw_at 780 (by decide +kernel)⟩
theorem l_Str_505 : xLv "java/lang/String" 505 m_Str_length 0 := ⟨xLk_of 784 89 787 (by decide +kernel), xw_at 785 (by decide +kernel), xw_at 786 (by decide +kernel)⟩
theorem l_Str_335 : xLv "java/lang/String" 335 m_Str_coder 0 := ⟨xLk_of 788 89 791 (by decide +kernel), xw_at 789 (by decide +kernel), xw_at 790 (by decide +kernel)⟩
theorem l_Str_637 : xLs "java/lang/String" 637 m_Lat_indexOf 4 := ⟨xLk_of 792 90 794 (by decide +kernel), xw_at 793 (by decide +kernel)⟩
theorem l_Lat_88 : xLs "java/lang/StringLatin1" 88 m_Lat_canEncode 1 := ⟨xLk_of 795 90 797 (by decide +kernel), xw_at 796 (by decide +kernel)⟩
theorem l_Lat_92 : xLs "java/lang/StringLatin1" 92 m_Math_max 2 := ⟨xLk_of 798 88 525 (by decide +kernel), xw_at 524 (by decide +kernel)⟩
theorem l_Lat_38 : xLs "java/lang/StringLatin1" 38 m_Math_min 2 := ⟨xLk_of 799 88 563 (by decide +kernel), xw_at 562 (by decide +kernel)⟩
theorem l_Lat_95 : xLs "java/lang/StringLatin1" 95 m_Lat_indexOfChar 4 := ⟨xLk_of 800 90 802 (by decide +kernel), xw_at 801 (by decide +kernel)⟩
theorem xw_cs : Cond.fieldLink "java/lang/String" 38 "java/lang/String" "COMPACT_STRINGS" "Z" ∈ xw := xw_at 782 (by decide +kernel)
theorem xw_co : Cond.fieldLink "java/lang/String" 15 "java/lang/String" "coder" "B" ∈ xw := xw_at 1798 (by decide +kernel)
theorem xw_va : Cond.fieldLink "java/lang/String" 9 "java/lang/String" "value" "[B" ∈ xw := xw_at 1799 (by decide +kernel)
theorem sx_mu {G : xG} {k : Nat} : xmu G (1000000 + k) = G.2.2.2.1 k := by
  unfold xmu
  rw [if_neg (by omega), Nat.add_sub_cancel_left]
theorem sx_all : ∀ i, i < 2 → ∀ n, n < 256 → ∀ j, j < sxN i → (sxB i j = (nI n).toInt8.toInt32 ↔ nI n = sxB i j) := by decide +kernel
theorem sx_eq {i j : Nat} {ch : Int32} (hi : i < 2) (hj : j < sxN i) (h0 : ¬ ch < 0) (h1 : ¬ 255 < ch) : sxB i j = ch.toInt8.toInt32 ↔ ch = sxB i j := by
  obtain ⟨n, hn, rfl⟩ := nI_of h0
  have h256 : n < 256 := by
    rcases Nat.lt_or_ge n 256 with q | q
    · exact q
    · exact absurd (nI_lt (a := 255) (b := n) (by omega) hn) h1
  exact sx_all i hi n h256 j hj
/-- what indexOf answers -/
def sxI (i : Nat) (ch : Int32) : Int32 := sidx (1000003 + i) ch
theorem sx_out {i : Nat} {ch : Int32} (hi : i < 2) (h : ch < 0 ∨ 255 < ch) : sxI i ch = -1 := by
  have key : ∀ b : Int32, 0 ≤ b → b ≤ 255 → ch ≠ b := by
    rintro b hb0 hb1 rfl
    rcases h with h | h
    · exact absurd h (Int32.not_lt.mpr hb0)
    · exact absurd h (Int32.not_lt.mpr hb1)
  have k1 := key 99 (by decide) (by decide)
  have k2 := key 109 (by decide) (by decide)
  have k3 := key 107 (by decide) (by decide)
  have k4 := key 104 (by decide) (by decide)
  have k5 := key 119 (by decide) (by decide)
  unfold sxI sidx
  simp only [if_neg k1, if_neg k2, if_neg k3, if_neg k4, if_neg k5, ite_self]
section SX
variable {G : xG} {X : xC} {Y Y' : MI} {d d' mc ms mc' ms' n np idx a : Nat} {cs : List (Int32 × Nat)} {K : Nat → Nat × Nat} {I : Nat → Nat → Int32} {P : Nat → Nat → Option Nat} {C : HC} {cells slots pc nx i : Nat} {lv st as rest : List Value} {Post' : xPost} {A : Prop} {v : Option Value} {ch : Int32}
theorem sx_S (hX : xAmb G X Y d mc ms) (hi : i < 2) : va_O "java/lang/String" (G.2.2.2.1 (3 + i)) (xA G) X.2.2.2.2.1 G.2.2.2.2 ∧ va_OF "java/lang/String" "coder" "B" (.int 0) (G.2.2.2.1 (3 + i)) (xA G) X.2.2.2.2.1 G.2.2.2.2 ∧ va_OF "java/lang/String" "value" "[B" (.ref (G.2.2.2.1 (5 + i))) (G.2.2.2.1 (3 + i)) (xA G) X.2.2.2.2.1 G.2.2.2.2 ∧ va_T .byte (G.2.2.2.1 (5 + i)) (sxN i) (fun j => .int (sxB i j)) (xA G) X.2.2.2.2.1 G.2.2.2.2 :=
  hX.2.2.2.2.2.1.2.1.2.2.2.2.2.1 i hi
/-- COMPACT_STRINGS -/
theorem kx_cs (hX : xAmb G X Y d mc ms) (hY : xpOK Y = true) (hC : Y.1.cls = "java/lang/String") (hs : xlook Y.2.2.2.2.1 pc = some (.getstatic 38, nx, a, cs)) (kk : A → kW G X Y C I cells slots nx lv (.int 1 :: st)) : A → kW G X Y C I cells slots pc lv st := by
  intro z
  obtain ⟨hd, -, hlen, -⟩ := xdec hY hs
  obtain rfl : nx = pc + 3 := by simpa [xlen] using hlen
  rw [Nat.add_sub_cancel_left] at hd
  intro H locs ls hR hlo hlv
  have hown := hX.2.2.2.1
  rw [hC] at hown
  obtain ⟨cf, kf, fi, f, a', cell, h1, h2, h3, h4, h5, h6, h7, h8⟩ := hX.2.2.2.2.2.1.2.1.2.1
  have hlt : a' < G.2.2.1 := Nat.not_le.mp h8
  exact W.gets hX.1 hX.2.1 hown (hX.2.2.2.2.1 _ xw_cs) h1 h2 h3 h4 (by rw [hR.2.2.1 a' hlt]; exact h5) (fun e => by rw [e] at h6; cases h6) h7 rfl hd (kk z H locs ls hR hlo hlv)
/-- a literal's fields -/
theorem kx_sco (hi : i < 2) (hX : xAmb G X Y d mc ms) (hY : xpOK Y = true) (hC : Y.1.cls = "java/lang/String") (hs : xlook Y.2.2.2.2.1 pc = some (.getfield 15, nx, a, cs)) (kk : A → kW G X Y C I cells slots nx lv (.int 0 :: st)) : A → kW G X Y C I cells slots pc lv (.ref (1000000 + (3 + i)) :: st) := by
  intro z
  obtain ⟨hd, -, hlen, -⟩ := xdec hY hs
  obtain rfl : nx = pc + 3 := by simpa [xlen] using hlen
  rw [Nat.add_sub_cancel_left] at hd
  intro H locs ls hR hlo hlv
  have hown := hX.2.2.2.1
  rw [hC] at hown
  obtain ⟨cf, k, fi, f, cell, h1, h2, h3, h4, h5, h6⟩ := (sx_S hX hi).2.1
  have hlt : G.2.2.2.1 (3 + i) < G.2.2.1 := Nat.not_le.mp h6
  have e1 : xv G (.ref (1000000 + (3 + i))) = .ref (G.2.2.2.1 (3 + i)) := congrArg Value.ref sx_mu
  show W _ _ _ _ _ _ _ _ _ _ H locs cells slots _ (F0 _ pc ls (xv G (.ref (1000000 + (3 + i))) :: st.map (xv G)))
  rw [e1]
  exact W.getf hX.1 hX.2.1 hown (hX.2.2.2.2.1 _ xw_co) h1 h2 (by rw [hR.2.2.1 _ hlt]; exact h3) h4 h5 rfl rfl hd (kk z H locs ls hR hlo hlv)
theorem kx_sva (hi : i < 2) (hX : xAmb G X Y d mc ms) (hY : xpOK Y = true) (hC : Y.1.cls = "java/lang/String") (hs : xlook Y.2.2.2.2.1 pc = some (.getfield 9, nx, a, cs)) (kk : A → kW G X Y C I cells slots nx lv (.ref (1000000 + (5 + i)) :: st)) : A → kW G X Y C I cells slots pc lv (.ref (1000000 + (3 + i)) :: st) := by
  intro z
  obtain ⟨hd, -, hlen, -⟩ := xdec hY hs
  obtain rfl : nx = pc + 3 := by simpa [xlen] using hlen
  rw [Nat.add_sub_cancel_left] at hd
  intro H locs ls hR hlo hlv
  have hown := hX.2.2.2.1
  rw [hC] at hown
  obtain ⟨cf, k, fi, f, cell, h1, h2, h3, h4, h5, h6⟩ := (sx_S hX hi).2.2.1
  have hlt : G.2.2.2.1 (3 + i) < G.2.2.1 := Nat.not_le.mp h6
  have e1 : xv G (.ref (1000000 + (3 + i))) = .ref (G.2.2.2.1 (3 + i)) := congrArg Value.ref sx_mu
  have e2 : xv G (.ref (1000000 + (5 + i))) = .ref (G.2.2.2.1 (5 + i)) := congrArg Value.ref sx_mu
  show W _ _ _ _ _ _ _ _ _ _ H locs cells slots _ (F0 _ pc ls (xv G (.ref (1000000 + (3 + i))) :: st.map (xv G)))
  rw [e1]
  have k2 := kk z H locs ls hR hlo hlv
  rw [List.map_cons, e2] at k2
  exact W.getf hX.1 hX.2.1 hown (hX.2.2.2.2.1 _ xw_va) h1 h2 (by rw [hR.2.2.1 _ hlt]; exact h3) h4 h5 rfl rfl hd k2
theorem kx_sle (hi : i < 2) (hX : xAmb G X Y d mc ms) (hY : xpOK Y = true) (hs : xis Y pc xq_alen = some nx) (kk : A → kW G X Y C I cells slots nx lv (.int (nI (sxN i)) :: st)) : A → kW G X Y C I cells slots pc lv (.ref (1000000 + (5 + i)) :: st) := by
  intro z
  obtain ⟨hd, rfl⟩ := xis_dec (ins := .arraylength) hY hs (fun i h => by cases i <;> first | rfl | cases h) (by decide)
  intro H locs ls hR hlo hlv
  obtain ⟨cell, h1, h2, h3, h4, h5, h6, h7⟩ := (sx_S hX hi).2.2.2
  have hlt : G.2.2.2.1 (5 + i) < G.2.2.1 := Nat.not_le.mp h7
  have e1 : xv G (.ref (1000000 + (5 + i))) = .ref (G.2.2.2.1 (5 + i)) := congrArg Value.ref sx_mu
  show W _ _ _ _ _ _ _ _ _ _ H locs cells slots _ (F0 _ pc ls (xv G (.ref (1000000 + (5 + i))) :: st.map (xv G)))
  rw [e1]
  exact W.alen (n := nI (sxN i)) hX.1 hX.2.1 (by rw [hR.2.2.1 _ hlt]; exact h1) h2 h5 rfl rfl hd (kk z H locs ls hR hlo hlv)
theorem kx_sba {j : Nat} {x : Int32} (hi : i < 2) (hj : j < sxN i) (hx : ¬ x < 0) (hxj : x.toNatClampNeg = j) (hX : xAmb G X Y d mc ms) (hY : xpOK Y = true) (hs : xis Y pc xq_bald = some nx) (kk : A → kW G X Y C I cells slots nx lv (.int (sxB i j) :: st)) : A → kW G X Y C I cells slots pc lv (.int x :: .ref (1000000 + (5 + i)) :: st) := by
  intro z
  obtain ⟨hd, rfl⟩ := xis_dec (ins := .baload) hY hs (fun i h => by cases i <;> first | rfl | cases h) (by decide)
  intro H locs ls hR hlo hlv
  obtain ⟨cell, h1, h2, h3, h4, h5, h6, h7⟩ := (sx_S hX hi).2.2.2
  have hlt : G.2.2.2.1 (5 + i) < G.2.2.1 := Nat.not_le.mp h7
  have e1 : xv G (.ref (1000000 + (5 + i))) = .ref (G.2.2.2.1 (5 + i)) := congrArg Value.ref sx_mu
  show W _ _ _ _ _ _ _ _ _ _ H locs cells slots _ (F0 _ pc ls (.int x :: xv G (.ref (1000000 + (5 + i))) :: st.map (xv G)))
  rw [e1]
  refine W.bald (v := .int (sxB i j)) hX.1 hX.2.1 (by rw [hR.2.2.1 _ hlt]; exact h1) h2 h3 ?_ (by rw [hxj]; exact h6 j hj) rfl rfl hd (kk z H locs ls hR hlo hlv)
  rintro (q | q)
  · exact hx q
  · omega
/-- a method of a literal -/
theorem ax_VS (hi : i < 2) (hX : xAmb G X Y d mc ms) (hY : xpOK Y = true) (hs : xlook Y.2.2.2.2.1 pc = some (.invokevirtual idx, nx, a, cs)) (hl : xLv Y.1.cls idx Y' np) (hcl : Y'.1.cls = "java/lang/String") (hc : cM G d' Y' (.ref (1000000 + (3 + i)) :: as) n K I P mc' ms' Post') (hd' : d' < d) (hn : as.length = np) (hst : st = as.reverse ++ .ref (1000000 + (3 + i)) :: rest) (hr8 : (rest.map fun v => v.category).sum ≤ 8) (hm : cells + mc' ≤ mc ∧ slots + ms' ≤ ms)
    (kk : ∀ v n' K' I' P', Post' v n' K' I' P' → aW G X Y n' K' I' P' (cells + mc') (slots + ms') nx lv (v.toList ++ rest)) : aW G X Y n K I P cells slots pc lv st := by
  obtain ⟨hd, -, hlen, -⟩ := xdec hY hs
  obtain rfl : nx = pc + 3 := by simpa [xlen] using hlen
  rw [Nat.add_sub_cancel_left] at hd
  intro H locs ls hR hlo hlv
  have hts := hX.2.2.2.2.1
  obtain ⟨⟨h1, h2, h3, h4, h5, h6⟩, h7, h8⟩ := hl
  have cb := callB_of (R := X.2.2.2.1) (own := Y.1.cls) (index := idx) (y := Y'.1) (bytes := Y'.2.1) (maxL := Y'.2.2.1) (ret := Y'.2.2.2.1) (ws := cWs Y') (rm := rmD d' mc' ms') (mc := mc') (ms := ms') np hts (xgood h3) rfl rfl rfl (hts _ h2) (hts _ h1) ⟨h4.1, h4.2, h5⟩ (xmono hX hd' h6)
  obtain ⟨cell, g1, g2, g3, g4⟩ := (sx_S hX hi).1
  have hrec : ∃ cell : Cell, H[G.2.2.2.1 (3 + i)]? = some cell ∧ cell.vm.isStatics = false ∧ X.2.2.2.2.1.vm.findClass "java/lang/String" = some cell.cls := ⟨cell, by rw [hR.2.2.1 _ (Nat.not_le.mp g4)]; exact g1, g2, g3⟩
  have e1 : xmu G (1000000 + (3 + i)) = G.2.2.2.1 (3 + i) := sx_mu
  rw [hcl] at h8
  refine xrun (va_runV (C := "java/lang/String") (b := G.2.2.2.1 (3 + i)) (As := as.map (xv G)) (rest := rest.map (xv G)) ⟨hX.1, hX.2.1, hX.2.2.1, hX.2.2.2.1, hts⟩ (hc _) ⟨cb, hts _ h7, hts _ h8⟩ ⟨cPre_blind, hrec, fun U hU hW => ⟨by rw [← e1]; rfl, by rw [hU]; exact hR, hX.2.2.2.2.2.1.warm hW⟩⟩ rfl (by rw [List.length_map]; exact hn) hlv.1 (by show st.map (xv G) = _; rw [hst, List.map_append, List.map_reverse, ← e1]; rfl) (lv_room (by rw [xcats]; exact hr8)) hd (xroom hX hm)) hlo ?_
  intro v n' K' I' P' H1 locs1 hp hR1 hlo1
  have k2 := kk v n' K' I' P' hp H1 locs1 ls hR1 hlo1 hlv
  rw [List.map_append] at k2
  cases v <;> exact k2
theorem kx_VS (hi : i < 2) (hX : xAmb G X Y d mc ms) (hY : xpOK Y = true) (hs : xlook Y.2.2.2.2.1 pc = some (.invokevirtual idx, nx, a, cs)) (hl : xLv Y.1.cls idx Y' np) (hcl : Y'.1.cls = "java/lang/String") (hc : kM G d' Y' (.ref (1000000 + (3 + i)) :: as) C I mc' ms' v C I) (hd : d' < d) (hn : as.length = np) (hst : st = as.reverse ++ .ref (1000000 + (3 + i)) :: rest) (hr8 : (rest.map fun v => v.category).sum ≤ 8) (hm : cells + mc' ≤ mc ∧ slots + ms' ≤ ms)
    (kk : A → kW G X Y C I (cells + mc') (slots + ms') nx lv (v.toList ++ rest)) : A → kW G X Y C I cells slots pc lv st :=
  fun a => ax_VS hi hX hY hs hl hcl hc hd hn hst hr8 hm (fun _ _ _ _ _ ⟨h1, h2, h3, h4, h5⟩ => by rw [h1, h2, h3, h4, h5]; exact kk a)
theorem kx_bret (hX : xAmb G X Y d mc ms) (hE : xRet G X Y mc ms (kPo (some (.int 0)) C I)) (hY : xpOK Y = true) (hs : xis Y pc xq_iret = some nx) (ht : Y.2.2.2.1 = some .byte) (hc : cells ≤ mc ∧ slots ≤ ms) : kW G X Y C I cells slots pc lv [.int 0] := by
  obtain ⟨hd, rfl⟩ := xis_dec (ins := .ireturn) hY hs (fun i h => by cases i <;> first | rfl | cases h) (by decide)
  intro H locs ls hR hlo hlv
  rw [hE.1]
  refine W.widen hc.1 hc.2 ?_
  exact W.zret (ty := .byte) hX.1 hX.2.1 (hE.2.1.trans ht) rfl (fun t hT _ => ⟨some (.int 0), _, _, _, _, rfl, ⟨rfl, rfl, rfl, rfl, rfl⟩, by rw [hT]; exact hR⟩) hlo hd hE.2.2
theorem s_Str_coder (hi : i < 2) : kM G d m_Str_coder [.ref (1000000 + (3 + i))] C I 0 0 (some (.int 0)) C I := by
  refine kM.of (A := True) (by decide +kernel) (Nat.le_of_ble_eq_true rfl) (lv := [.ref (1000000 + (3 + i))]) rfl (fun X hX hE => ?_) trivial
  refine kx_cs hX ok_Str_coder rfl (nx := 3) rfl ?_
  refine kx_go 1 (pc' := if (1 : Int32) = 0 then 13 else 6) (lv' := [.ref (1000000 + (3 + i))]) (st' := []) hX ok_Str_coder rfl ?_
  refine kx_no (by decide) ?_
  refine kx_go 1 (pc' := 7) (lv' := [.ref (1000000 + (3 + i))]) (st' := [.ref (1000000 + (3 + i))]) hX ok_Str_coder rfl ?_
  refine kx_sco hi hX ok_Str_coder rfl (nx := 10) rfl ?_
  refine kx_go 1 (pc' := 14) (lv' := [.ref (1000000 + (3 + i))]) (st' := [.int 0]) hX ok_Str_coder rfl ?_
  exact fun _ => kx_bret hX hE ok_Str_coder (nx := 15) rfl rfl ⟨Nat.le_refl _, Nat.le_refl _⟩
theorem s_Str_isLatin1 (hi : i < 2) : kM G d m_Str_isLatin1 [.ref (1000000 + (3 + i))] C I 0 0 (some (.int 1)) C I := by
  refine kM.of (A := True) (by decide +kernel) (Nat.le_of_ble_eq_true rfl) (lv := [.ref (1000000 + (3 + i))]) rfl (fun X hX hE => ?_) trivial
  refine kx_cs hX ok_Str_isLatin1 rfl (nx := 3) rfl ?_
  refine kx_go 1 (pc' := if (1 : Int32) = 0 then 17 else 6) (lv' := [.ref (1000000 + (3 + i))]) (st' := []) hX ok_Str_isLatin1 rfl ?_
  refine kx_no (by decide) ?_
  refine kx_go 1 (pc' := 7) (lv' := [.ref (1000000 + (3 + i))]) (st' := [.ref (1000000 + (3 + i))]) hX ok_Str_isLatin1 rfl ?_
  refine kx_sco hi hX ok_Str_isLatin1 rfl (nx := 10) rfl ?_
  refine kx_go 1 (pc' := if (0 : Int32) = 0 then 13 else 17) (lv' := [.ref (1000000 + (3 + i))]) (st' := []) hX ok_Str_isLatin1 rfl ?_
  refine kx_yes rfl ?_
  refine kx_go 2 (pc' := 18) (lv' := [.ref (1000000 + (3 + i))]) (st' := [.int 1]) hX ok_Str_isLatin1 rfl ?_
  exact fun _ => kx_zret hX hE ok_Str_isLatin1 (nx := 19) rfl rfl (Or.inr rfl) ⟨Nat.le_refl _, Nat.le_refl _⟩
theorem sx_sh : ∀ i, i < 2 → (nI (sxN i) >>> ((0 : Int32) &&& 31)) = nI (sxN i) := by decide +kernel
theorem s_Str_length (hd1 : 0 < d) (hi : i < 2) : kM G d m_Str_length [.ref (1000000 + (3 + i))] C I 0 0 (some (.int (nI (sxN i)))) C I := by
  refine kM.of (A := True) (by decide +kernel) (Nat.le_of_ble_eq_true rfl) (lv := [.ref (1000000 + (3 + i))]) rfl (fun X hX hE => ?_) trivial
  refine kx_go 1 (pc' := 1) (lv' := [.ref (1000000 + (3 + i))]) (st' := [.ref (1000000 + (3 + i))]) hX ok_Str_length rfl ?_
  refine kx_sva hi hX ok_Str_length rfl (nx := 4) rfl ?_
  refine kx_sle hi hX ok_Str_length (nx := 5) rfl ?_
  refine kx_go 1 (pc' := 6) (lv' := [.ref (1000000 + (3 + i))]) (st' := [.ref (1000000 + (3 + i)), .int (nI (sxN i))]) hX ok_Str_length rfl ?_
  refine kx_VS (as := []) hi hX ok_Str_length (nx := 9) rfl l_Str_335 rfl (s_Str_coder (d := 0) hi) hd1 rfl (rest := [.int (nI (sxN i))]) rfl (Nat.le_of_ble_eq_true rfl) ⟨Nat.le_refl _, Nat.le_refl _⟩ ?_
  show _ → kW G X m_Str_length C I 0 0 9 [.ref (1000000 + (3 + i))] [.int 0, .int (nI (sxN i))]
  refine kx_go 1 (pc' := 10) (lv' := [.ref (1000000 + (3 + i))]) (st' := [.int (nI (sxN i) >>> ((0 : Int32) &&& 31))]) hX ok_Str_length rfl ?_
  rw [sx_sh i hi]
  exact fun _ => kx_iret hX hE ok_Str_length (nx := 11) rfl rfl ⟨Nat.le_refl _, Nat.le_refl _⟩
theorem s_canNo (h : ch < 0 ∨ 255 < ch) : kM G d m_Lat_canEncode [.int ch] C I 0 0 (some (.int 0)) C I := by
  refine kM.of (A := True) (by decide +kernel) (Nat.le_of_ble_eq_true rfl) (lv := [.int ch]) rfl (fun X hX hE => ?_) trivial
  refine kx_go 2 (pc' := if ch < 0 then 15 else 4) (lv' := [.int ch]) (st' := []) hX ok_Lat_canEncode rfl ?_
  have fin : True → kW G X m_Lat_canEncode C I 0 0 15 [.int ch] [] := by
    refine kx_go 1 (pc' := 16) (lv' := [.int ch]) (st' := [.int 0]) hX ok_Lat_canEncode rfl ?_
    exact fun _ => kx_zret hX hE ok_Lat_canEncode (nx := 17) rfl rfl (Or.inl rfl) ⟨Nat.le_refl _, Nat.le_refl _⟩
  by_cases h0 : ch < 0
  · exact kx_yes h0 fin
  · refine kx_no h0 ?_
    refine kx_go 3 (pc' := if (255 : Int32) < ch then 15 else 11) (lv' := [.int ch]) (st' := []) hX ok_Lat_canEncode rfl ?_
    exact kx_yes (h.resolve_left h0) fin
theorem s_canYes (h0 : ¬ ch < 0) (h1 : ¬ 255 < ch) : kM G d m_Lat_canEncode [.int ch] C I 0 0 (some (.int 1)) C I := by
  refine kM.of (A := True) (by decide +kernel) (Nat.le_of_ble_eq_true rfl) (lv := [.int ch]) rfl (fun X hX hE => ?_) trivial
  refine kx_go 2 (pc' := if ch < 0 then 15 else 4) (lv' := [.int ch]) (st' := []) hX ok_Lat_canEncode rfl ?_
  refine kx_no h0 ?_
  refine kx_go 3 (pc' := if (255 : Int32) < ch then 15 else 11) (lv' := [.int ch]) (st' := []) hX ok_Lat_canEncode rfl ?_
  refine kx_no h1 ?_
  refine kx_go 2 (pc' := 16) (lv' := [.int ch]) (st' := [.int 1]) hX ok_Lat_canEncode rfl ?_
  exact fun _ => kx_zret hX hE ok_Lat_canEncode (nx := 17) rfl rfl (Or.inr rfl) ⟨Nat.le_refl _, Nat.le_refl _⟩
/-- the loop of indexOfChar: one turn, and its two ends -/
theorem sx_it {j : Nat} {x w : Int32} (hi : i < 2) (hj : j < sxN i) (hx : ¬ x < 0) (hxj : x.toNatClampNeg = j) (hw : ¬ w ≤ x) (hX : xAmb G X m_Lat_indexOfChar d mc ms) {c8 : Int32}
    (k1 : sxB i j = c8 → A → kW G X m_Lat_indexOfChar C I cells slots 24 [.ref (1000000 + (5 + i)), .int ch, .int 0, .int w, .int c8, .int x] [.int x])
    (k2 : ¬ sxB i j = c8 → A → kW G X m_Lat_indexOfChar C I cells slots 7 [.ref (1000000 + (5 + i)), .int ch, .int 0, .int w, .int c8, .int (x + 1)] []) :
    A → kW G X m_Lat_indexOfChar C I cells slots 7 [.ref (1000000 + (5 + i)), .int ch, .int 0, .int w, .int c8, .int x] [] := by
  refine kx_go 3 (pc' := if w ≤ x then 31 else 13) (lv' := [.ref (1000000 + (5 + i)), .int ch, .int 0, .int w, .int c8, .int x]) (st' := []) hX ok_Lat_indexOfChar rfl ?_
  refine kx_no hw ?_
  refine kx_go 2 (pc' := 16) (lv' := [.ref (1000000 + (5 + i)), .int ch, .int 0, .int w, .int c8, .int x]) (st' := [.int x, .ref (1000000 + (5 + i))]) hX ok_Lat_indexOfChar rfl ?_
  refine kx_sba hi hj hx hxj hX ok_Lat_indexOfChar (nx := 17) rfl ?_
  refine kx_go 2 (pc' := if sxB i j = c8 then 22 else 25) (lv' := [.ref (1000000 + (5 + i)), .int ch, .int 0, .int w, .int c8, .int x]) (st' := []) hX ok_Lat_indexOfChar rfl ?_
  by_cases hb : sxB i j = c8
  · refine kx_yes hb ?_
    exact kx_go 1 (pc' := 24) (lv' := [.ref (1000000 + (5 + i)), .int ch, .int 0, .int w, .int c8, .int x]) (st' := [.int x]) hX ok_Lat_indexOfChar rfl (k1 hb)
  · refine kx_no hb ?_
    exact kx_go 2 (pc' := 7) (lv' := [.ref (1000000 + (5 + i)), .int ch, .int 0, .int w, .int c8, .int (x + 1)]) (st' := []) hX ok_Lat_indexOfChar rfl (k2 hb)
theorem sx_end {x w c8 : Int32} (hw : w ≤ x) (hX : xAmb G X m_Lat_indexOfChar d mc ms)
    (k1 : A → kW G X m_Lat_indexOfChar C I cells slots 32 [.ref (1000000 + (5 + i)), .int ch, .int 0, .int w, .int c8, .int x] [.int (-1)]) :
    A → kW G X m_Lat_indexOfChar C I cells slots 7 [.ref (1000000 + (5 + i)), .int ch, .int 0, .int w, .int c8, .int x] [] := by
  refine kx_go 3 (pc' := if w ≤ x then 31 else 13) (lv' := [.ref (1000000 + (5 + i)), .int ch, .int 0, .int w, .int c8, .int x]) (st' := []) hX ok_Lat_indexOfChar rfl ?_
  refine kx_yes hw ?_
  exact kx_go 1 (pc' := 32) (lv' := [.ref (1000000 + (5 + i)), .int ch, .int 0, .int w, .int c8, .int x]) (st' := [.int (-1)]) hX ok_Lat_indexOfChar rfl k1
theorem sx_ret {r : Int32} (hX : xAmb G X m_Lat_indexOfChar d 0 0) (hE : xRet G X m_Lat_indexOfChar 0 0 (kPo (some (.int (sxI i ch))) C I)) (hr : sxI i ch = r) (hp : pc = 24 ∨ pc = 32) : A → kW G X m_Lat_indexOfChar C I 0 0 pc lv [.int r] := by
  intro _
  rw [hr] at hE
  rcases hp with rfl | rfl
  · exact kx_iret hX hE ok_Lat_indexOfChar (nx := 25) rfl rfl ⟨Nat.le_refl _, Nat.le_refl _⟩
  · exact kx_iret hX hE ok_Lat_indexOfChar (nx := 33) rfl rfl ⟨Nat.le_refl _, Nat.le_refl _⟩
theorem s_ixChar (hi : i < 2) (h0 : ¬ ch < 0) (h1 : ¬ 255 < ch) : kM G d m_Lat_indexOfChar [.ref (1000000 + (5 + i)), .int ch, .int 0, .int (nI (sxN i))] C I 0 0 (some (.int (sxI i ch))) C I := by
  refine kM.of (A := True) (by decide +kernel) (Nat.le_of_ble_eq_true rfl) (lv := [.ref (1000000 + (5 + i)), .int ch, .int 0, .int (nI (sxN i)), .null, .null]) rfl (fun X hX hE => ?_) trivial
  refine kx_go 5 (pc' := 7) (lv' := [.ref (1000000 + (5 + i)), .int ch, .int 0, .int (nI (sxN i)), .int ch.toInt8.toInt32, .int 0]) (st' := []) hX ok_Lat_indexOfChar rfl ?_
  have ey : ∀ j, j < sxN i → sxB i j = ch.toInt8.toInt32 → ch = sxB i j := fun j hj h => (sx_eq hi hj h0 h1).mp h
  have en : ∀ j, j < sxN i → ¬ sxB i j = ch.toInt8.toInt32 → ¬ ch = sxB i j := fun j hj h e => h ((sx_eq hi hj h0 h1).mpr e)
  rcases (show i = 0 ∨ i = 1 by omega) with rfl | rfl
  · refine sx_it (j := 0) hi (by decide) (by decide) (by decide) (by decide) hX (fun b0 => sx_ret hX hE (by rw [ey 0 (by decide) b0]; decide +kernel) (Or.inl rfl)) (fun b0 => ?_)
    refine sx_it (j := 1) hi (by decide) (by decide) (by decide) (by decide) hX (fun b1 => sx_ret hX hE (by rw [ey 1 (by decide) b1]; decide +kernel) (Or.inl rfl)) (fun b1 => ?_)
    refine sx_it (j := 2) hi (by decide) (by decide) (by decide) (by decide) hX (fun b2 => sx_ret hX hE (by rw [ey 2 (by decide) b2]; decide +kernel) (Or.inl rfl)) (fun b2 => ?_)
    refine sx_it (j := 3) hi (by decide) (by decide) (by decide) (by decide) hX (fun b3 => sx_ret hX hE (by rw [ey 3 (by decide) b3]; decide +kernel) (Or.inl rfl)) (fun b3 => ?_)
    refine sx_end (by decide) hX (sx_ret hX hE ?_ (Or.inr rfl))
    have n0 : ¬ ch = 99 := en 0 (by decide) b0
    have n1 : ¬ ch = 109 := en 1 (by decide) b1
    have n2 : ¬ ch = 107 := en 2 (by decide) b2
    have n3 : ¬ ch = 104 := en 3 (by decide) b3
    unfold sxI sidx
    rw [if_pos (show 1000003 + 0 = 1000003 from rfl), if_neg n0, if_neg n1, if_neg n2, if_neg n3]
  · refine sx_it (j := 0) hi (by decide) (by decide) (by decide) (by decide) hX (fun b0 => sx_ret hX hE (by rw [ey 0 (by decide) b0]; decide +kernel) (Or.inl rfl)) (fun b0 => ?_)
    refine sx_it (j := 1) hi (by decide) (by decide) (by decide) (by decide) hX (fun b1 => sx_ret hX hE (by rw [ey 1 (by decide) b1]; decide +kernel) (Or.inl rfl)) (fun b1 => ?_)
    refine sx_it (j := 2) hi (by decide) (by decide) (by decide) (by decide) hX (fun b2 => sx_ret hX hE (by rw [ey 2 (by decide) b2]; decide +kernel) (Or.inl rfl)) (fun b2 => ?_)
    refine sx_end (by decide) hX (sx_ret hX hE ?_ (Or.inr rfl))
    have n0 : ¬ ch = 119 := en 0 (by decide) b0
    have n1 : ¬ ch = 107 := en 1 (by decide) b1
    have n2 : ¬ ch = 99 := en 2 (by decide) b2
    unfold sxI sidx
    rw [if_neg (show ¬ 1000003 + 1 = 1000003 by decide), if_neg n0, if_neg n1, if_neg n2]
theorem sx_lt : ∀ i, i < 2 → (0 : Int32) < nI (sxN i) ∧ mmin (nI (sxN i)) (nI (sxN i)) = nI (sxN i) := by decide +kernel
theorem s_Lat_indexOf (hd1 : 0 < d) (hi : i < 2) : kM G d m_Lat_indexOf [.ref (1000000 + (5 + i)), .int ch, .int 0, .int (nI (sxN i))] C I 0 0 (some (.int (sxI i ch))) C I := by
  refine kM.of (A := True) (by decide +kernel) (Nat.le_of_ble_eq_true rfl) (lv := [.ref (1000000 + (5 + i)), .int ch, .int 0, .int (nI (sxN i))]) rfl (fun X hX hE => ?_) trivial
  refine kx_go 1 (pc' := 1) (lv' := [.ref (1000000 + (5 + i)), .int ch, .int 0, .int (nI (sxN i))]) (st' := [.int ch]) hX ok_Lat_indexOf rfl ?_
  by_cases h : ch < 0 ∨ 255 < ch
  · refine kx_S (as := [.int ch]) hX ok_Lat_indexOf (nx := 4) rfl l_Lat_88 (fun _ => s_canNo (d := 0) h) hd1 rfl (rest := []) rfl (Nat.le_of_ble_eq_true rfl) ⟨Nat.le_refl _, Nat.le_refl _⟩ ?_
    show _ → kW G X m_Lat_indexOf C I 0 0 4 [.ref (1000000 + (5 + i)), .int ch, .int 0, .int (nI (sxN i))] [.int 0]
    refine kx_go 1 (pc' := if (0 : Int32) = 0 then 7 else 9) (lv' := [.ref (1000000 + (5 + i)), .int ch, .int 0, .int (nI (sxN i))]) (st' := []) hX ok_Lat_indexOf rfl ?_
    refine kx_yes rfl ?_
    refine kx_go 1 (pc' := 8) (lv' := [.ref (1000000 + (5 + i)), .int ch, .int 0, .int (nI (sxN i))]) (st' := [.int (-1)]) hX ok_Lat_indexOf rfl ?_
    rw [sx_out hi h] at hE
    exact fun _ => kx_iret hX hE ok_Lat_indexOf (nx := 9) rfl rfl ⟨Nat.le_refl _, Nat.le_refl _⟩
  · have h0 : ¬ ch < 0 := fun q => h (Or.inl q)
    have h1 : ¬ 255 < ch := fun q => h (Or.inr q)
    refine kx_S (as := [.int ch]) hX ok_Lat_indexOf (nx := 4) rfl l_Lat_88 (fun _ => s_canYes (d := 0) h0 h1) hd1 rfl (rest := []) rfl (Nat.le_of_ble_eq_true rfl) ⟨Nat.le_refl _, Nat.le_refl _⟩ ?_
    show _ → kW G X m_Lat_indexOf C I 0 0 4 [.ref (1000000 + (5 + i)), .int ch, .int 0, .int (nI (sxN i))] [.int 1]
    refine kx_go 1 (pc' := if (1 : Int32) = 0 then 7 else 9) (lv' := [.ref (1000000 + (5 + i)), .int ch, .int 0, .int (nI (sxN i))]) (st' := []) hX ok_Lat_indexOf rfl ?_
    refine kx_no (by decide) ?_
    refine kx_go 2 (pc' := 11) (lv' := [.ref (1000000 + (5 + i)), .int ch, .int 0, .int (nI (sxN i))]) (st' := [.int 0, .int 0]) hX ok_Lat_indexOf rfl ?_
    refine kx_max hd1 ⟨Nat.le_refl _, Nat.le_refl _⟩ hX ok_Lat_indexOf (nx := 14) rfl l_Lat_92 (Nat.le_of_ble_eq_true rfl) ?_
    rw [show mmax 0 0 = 0 from by decide]
    refine kx_go 3 (pc' := 17) (lv' := [.ref (1000000 + (5 + i)), .int ch, .int 0, .int (nI (sxN i))]) (st' := [.ref (1000000 + (5 + i)), .int (nI (sxN i))]) hX ok_Lat_indexOf rfl ?_
    refine kx_sle hi hX ok_Lat_indexOf (nx := 18) rfl ?_
    refine kx_min hd1 ⟨Nat.le_refl _, Nat.le_refl _⟩ hX ok_Lat_indexOf (nx := 21) rfl l_Lat_38 (Nat.le_of_ble_eq_true rfl) ?_
    rw [(sx_lt i hi).2]
    refine kx_go 4 (pc' := if (0 : Int32) < nI (sxN i) then 29 else 27) (lv' := [.ref (1000000 + (5 + i)), .int ch, .int 0, .int (nI (sxN i))]) (st' := []) hX ok_Lat_indexOf rfl ?_
    refine kx_yes (sx_lt i hi).1 ?_
    refine kx_go 4 (pc' := 33) (lv' := [.ref (1000000 + (5 + i)), .int ch, .int 0, .int (nI (sxN i))]) (st' := [.int (nI (sxN i)), .int 0, .int ch, .ref (1000000 + (5 + i))]) hX ok_Lat_indexOf rfl ?_
    refine kx_S (as := [.ref (1000000 + (5 + i)), .int ch, .int 0, .int (nI (sxN i))]) hX ok_Lat_indexOf (nx := 36) rfl l_Lat_95 (fun _ => s_ixChar (d := 0) hi h0 h1) hd1 rfl (rest := []) rfl (Nat.le_of_ble_eq_true rfl) ⟨Nat.le_refl _, Nat.le_refl _⟩ ?_
    exact fun _ => kx_iret hX hE ok_Lat_indexOf (nx := 37) rfl rfl ⟨Nat.le_refl _, Nat.le_refl _⟩
theorem s_Str_ix2 (hd3 : 2 < d) (hi : i < 2) : kM G d m_Str_indexOf_ [.ref (1000000 + (3 + i)), .int ch, .int 0] C I 0 0 (some (.int (sxI i ch))) C I := by
  refine kM.of (A := True) (by decide +kernel) (Nat.le_of_ble_eq_true rfl) (lv := [.ref (1000000 + (3 + i)), .int ch, .int 0]) rfl (fun X hX hE => ?_) trivial
  refine kx_go 1 (pc' := 1) (lv' := [.ref (1000000 + (3 + i)), .int ch, .int 0]) (st' := [.ref (1000000 + (3 + i))]) hX ok_Str_indexOf_ rfl ?_
  refine kx_VS (as := []) hi hX ok_Str_indexOf_ (nx := 4) rfl l_Str_492 rfl (s_Str_isLatin1 (d := 0) hi) (by omega) rfl (rest := []) rfl (Nat.le_of_ble_eq_true rfl) ⟨Nat.le_refl _, Nat.le_refl _⟩ ?_
  show _ → kW G X m_Str_indexOf_ C I 0 0 4 [.ref (1000000 + (3 + i)), .int ch, .int 0] [.int 1]
  refine kx_go 1 (pc' := if (1 : Int32) = 0 then 23 else 7) (lv' := [.ref (1000000 + (3 + i)), .int ch, .int 0]) (st' := []) hX ok_Str_indexOf_ rfl ?_
  refine kx_no (by decide) ?_
  refine kx_go 1 (pc' := 8) (lv' := [.ref (1000000 + (3 + i)), .int ch, .int 0]) (st' := [.ref (1000000 + (3 + i))]) hX ok_Str_indexOf_ rfl ?_
  refine kx_sva hi hX ok_Str_indexOf_ rfl (nx := 11) rfl ?_
  refine kx_go 3 (pc' := 14) (lv' := [.ref (1000000 + (3 + i)), .int ch, .int 0]) (st' := [.ref (1000000 + (3 + i)), .int 0, .int ch, .ref (1000000 + (5 + i))]) hX ok_Str_indexOf_ rfl ?_
  refine kx_VS (as := []) hi hX ok_Str_indexOf_ (nx := 17) rfl l_Str_505 rfl (s_Str_length (d := 1) (by omega) hi) (by omega) rfl (rest := [.int 0, .int ch, .ref (1000000 + (5 + i))]) rfl (Nat.le_of_ble_eq_true rfl) ⟨Nat.le_refl _, Nat.le_refl _⟩ ?_
  show _ → kW G X m_Str_indexOf_ C I 0 0 17 [.ref (1000000 + (3 + i)), .int ch, .int 0] [.int (nI (sxN i)), .int 0, .int ch, .ref (1000000 + (5 + i))]
  refine kx_S (as := [.ref (1000000 + (5 + i)), .int ch, .int 0, .int (nI (sxN i))]) hX ok_Str_indexOf_ (nx := 20) rfl l_Str_637 (fun _ => s_Lat_indexOf (d := 1) (by omega) hi) (by omega) rfl (rest := []) rfl (Nat.le_of_ble_eq_true rfl) ⟨Nat.le_refl _, Nat.le_refl _⟩ ?_
  show _ → kW G X m_Str_indexOf_ C I 0 0 20 [.ref (1000000 + (3 + i)), .int ch, .int 0] [.int (sxI i ch)]
  refine kx_go 1 (pc' := 36) (lv' := [.ref (1000000 + (3 + i)), .int ch, .int 0]) (st' := [.int (sxI i ch)]) hX ok_Str_indexOf_ rfl ?_
  exact fun _ => kx_iret hX hE ok_Str_indexOf_ (nx := 37) rfl rfl ⟨Nat.le_refl _, Nat.le_refl _⟩
theorem s_Str_ix (hd4 : 3 < d) (hi : i < 2) : kM G d m_Str_indexOf [.ref (1000000 + (3 + i)), .int ch] C I 0 0 (some (.int (sxI i ch))) C I := by
  refine kM.of (A := True) (by decide +kernel) (Nat.le_of_ble_eq_true rfl) (lv := [.ref (1000000 + (3 + i)), .int ch]) rfl (fun X hX hE => ?_) trivial
  refine kx_go 3 (pc' := 3) (lv' := [.ref (1000000 + (3 + i)), .int ch]) (st' := [.int 0, .int ch, .ref (1000000 + (3 + i))]) hX ok_Str_indexOf rfl ?_
  refine kx_VS (as := [.int ch, .int 0]) hi hX ok_Str_indexOf (nx := 6) rfl l_Str_633 rfl (s_Str_ix2 (d := 3) (by omega) hi) (by omega) rfl (rest := []) rfl (Nat.le_of_ble_eq_true rfl) ⟨Nat.le_refl _, Nat.le_refl _⟩ ?_
  exact fun _ => kx_iret hX hE ok_Str_indexOf (nx := 7) rfl rfl ⟨Nat.le_refl _, Nat.le_refl _⟩
theorem kx_idx {dn : Nat} (hd1 : 6 < d) (hdn : dn = 1000003 ∨ dn = 1000004) (hroom : cells ≤ mc ∧ slots ≤ ms) (hX : xAmb G X Y d mc ms) (hY : xpOK Y = true) (hs : xlook Y.2.2.2.2.1 pc = some (.invokevirtual idx, nx, a, cs)) (hl : xLv Y.1.cls idx m_Str_indexOf 1) (hr8 : (st.map fun v => v.category).sum ≤ 8)
    (kk : A → kW G X Y C I cells slots nx lv (.int (sidx dn ch) :: st)) : A → kW G X Y C I cells slots pc lv (.int ch :: .ref dn :: st) := by
  rcases hdn with rfl | rfl
  · exact kx_VS (i := 0) (as := [.int ch]) (by omega) hX hY hs hl rfl (s_Str_ix (d := 4) (by omega) (by omega)) (by omega) rfl (rest := st) rfl hr8 hroom kk
  · exact kx_VS (i := 1) (as := [.int ch]) (by omega) hX hY hs hl rfl (s_Str_ix (d := 4) (by omega) (by omega)) (by omega) rfl (rest := st) rfl hr8 hroom kk
end SX
