/-! the start: cells that are made one behind another; K is known ahead, Z are the new cells' ints, O the old ones' -/
def C0 (L : Nat) : HC := (0, fun _ => 0, fun i => 3 + i, fun i => 34 + i, 30, 1000002, L)
def ov (Z O : HI) : HI := fun r => if r < 1000000 then Z r else O r
theorem ov_row {Z O : HI} {r : Nat} {f : Nat → Int32} (h : r < 1000000) : xrow (ov Z O) r f = ov (xrow Z r f) O := by
  funext q
  show (if q = r then f else if q < 1000000 then Z q else O q) = (if q < 1000000 then (if q = r then f else Z q) else O q)
  by_cases hq : q = r
  · subst hq; rw [if_pos rfl, if_pos h, if_pos rfl]
  · rw [if_neg hq, if_neg hq]
theorem ov_u {Z O : HI} {r k : Nat} {v : Int32} (h : r < 1000000) : xu (ov Z O) r k v = ov (xu Z r k v) O := by
  unfold xu
  rw [show ov Z O r = Z r from if_pos h]
  exact ov_row h
def z0 : Nat → Int32 := fun _ => 0
def o0 : Nat → Option Nat := fun _ => none
def mZ (n : Nat) (Z : HI) : HI := fun q => if n ≤ q ∧ q < n + 5 then z0 else Z q
def mP (n : Nat) (P : Nat → Nat → Option Nat) : Nat → Nat → Option Nat := fun q => if q = n then (fun j => if j < 4 then some (n + 1 + j) else none) else if n ≤ q ∧ q < n + 5 then o0 else P q
def nxW (G : xG) (X : xC) (Y : MI) (L : Nat) (O : HI) (n : Nat) (Z : HI) (P : Nat → Nat → Option Nat) (cells slots pc : Nat) (lv st : List Value) : Prop := aW G X Y n (kK (C0 L)) (ov Z O) P cells slots pc lv st
def nPo (L : Nat) (O : HI) (n' : Nat) (Z' : HI) (P' : Nat → Nat → Option Nat) : xPost := fun v n1 K1 I1 P1 => v = none ∧ n1 = n' ∧ K1 = kK (C0 L) ∧ I1 = ov Z' O ∧ P1 = P'
def nM (G : xG) (d : Nat) (Y : MI) (as : List Value) (L : Nat) (O : HI) (n : Nat) (Z : HI) (P : Nat → Nat → Option Nat) (mc ms n' : Nat) (Z' : HI) (P' : Nat → Nat → Option Nat) : Prop := cM G d Y as n (kK (C0 L)) (ov Z O) P mc ms (nPo L O n' Z' P')
theorem xR.pushm {G : xG} {n m : Nat} {K : Nat → Nat × Nat} {I I' : Nat → Nat → Int32} {P P' : Nat → Nat → Option Nat} {H H1 : Heap} (h : xR G n K I P H) (hz : H1.size = H.size + m) (ho : ∀ q : Nat, q < H.size → H1[q]? = H[q]?) (he : ∀ j, j < m → va_at G.1 xCl (G.2.2.1 + (n + j), xE G K I' P' (n + j)) H1) (hE : ∀ q, q < n ∨ n + m ≤ q → I' q = I q ∧ P' q = P q) (hn : n + m < 1000000) : xR G (n + m) K I' P' H1 := by
  have hsz := h.1
  refine ⟨by omega, fun k q hk => ?_, fun q hq => (ho q (by omega)).trans (h.2.2.1 q hq), hn, h.2.2.2.2.1, fun j hj => ?_⟩
  · obtain ⟨hl, rfl⟩ := xL_inv hk
    by_cases e : n ≤ k
    · have h2 := he (k - n) (by omega)
      rw [show n + (k - n) = k by omega] at h2
      exact h2
    · have hlt : k < n := by omega
      obtain ⟨e2, e3⟩ := hE k (Or.inl hlt)
      rw [xE_ne (G := G) (K := K) e2 e3]
      exact (h.at hlt).kept (ho _ (by show G.2.2.1 + k < H.size; omega))
  · obtain ⟨h1, h2, h3⟩ := h.2.2.2.2.2 j hj
    obtain ⟨e2, -⟩ := hE (1000000 + j) (Or.inr (by omega))
    refine ⟨h1, h2, ?_⟩
    rw [e2, ho _ (by omega)]
    exact h3
section NX
variable {G : xG} {X : xC} {Y Y' : MI} {d d' mc ms mc' ms' L : Nat} {O : HI} {n n' c' s' : Nat} {Z Z' : HI} {P P' : Nat → Nat → Option Nat} {cells slots pc nx r a idx np : Nat} {cs : List (Int32 × Nat)} {lv st as rest : List Value}
theorem nx_go (j : Nat) {pc' : Nat} {lv' st' : List Value} (hX : xAmb G X Y d mc ms) (hY : xpOK Y = true) (hs : xgo j Y pc lv st = some (pc', lv', st')) (kk : nxW G X Y L O n Z P cells slots pc' lv' st') : nxW G X Y L O n Z P cells slots pc lv st :=
  ax_go hX hY j pc lv st (pc', lv', st') hs kk
theorem nx_yes {q : Prop} [Decidable q] {b1 b2 : Nat} (hc : q) (kk : nxW G X Y L O n Z P cells slots b1 lv st) : nxW G X Y L O n Z P cells slots (if q then b1 else b2) lv st := by rw [if_pos hc]; exact kk
theorem nx_no {q : Prop} [Decidable q] {b1 b2 : Nat} (hc : ¬ q) (kk : nxW G X Y L O n Z P cells slots b2 lv st) : nxW G X Y L O n Z P cells slots (if q then b1 else b2) lv st := by rw [if_neg hc]; exact kk
theorem nx_obj (hX : xAmb G X Y d mc ms) (hY : xpOK Y = true) (hs : xlook Y.2.2.2.2.1 pc = some (.invokespecial idx, nx, a, cs)) (hl : Cond.methodLink Y.1.cls idx Lib.objectInit ∈ xw ∧ Cond.instanceMethod Lib.objectInit ∈ xw ∧ Cond.code Lib.objectInit ⟨#[0xb1]⟩ 1 none ∈ xw) (hd1 : 0 < d) (hr8 : (st.map fun v => v.category).sum ≤ 8)
    (kk : nxW G X Y L O n Z P cells slots nx lv st) : nxW G X Y L O n Z P cells slots pc lv (.ref r :: st) := ax_obj hX hY hs hl hd1 hr8 kk
theorem nx_new {c w : Nat} (hX : xAmb G X Y d mc ms) (hY : xpOK Y = true) (hs : xlook Y.2.2.2.2.1 pc = some (.new idx, nx, a, cs)) (hc : c < 13) (hw : Cond.classLink Y.1.cls idx (xcn c) ∈ xw ∧ Cond.instantiable (xcn c) (xN c) ∈ xw ∧ Cond.initialized (xcn c) ∈ xw) (hk : kK (C0 L) n = (c, w)) (hn : n < 107) (hm : cells + 1 ≤ mc ∧ slots + xN c ≤ ms) (e : n + 1 = n' ∧ cells + 1 = c' ∧ slots + xN c = s')
    (kk : nxW G X Y L O n' (xrow Z n z0) (xprow P n o0) c' s' nx lv (.ref n :: st)) : nxW G X Y L O n Z P cells slots pc lv st := by
  obtain ⟨rfl, rfl, rfl⟩ := e
  unfold nxW at kk ⊢
  rw [← ov_row (by omega)] at kk
  exact ax_new hX hY hs hc hw hk (fun _ _ => rfl) (by omega) hm kk
theorem nx_newa {c w : Nat} {at_ : ArrayType} {x : Int32} (hX : xAmb G X Y d mc ms) (hY : xpOK Y = true) (hs : xlook Y.2.2.2.2.1 pc = some (.newarray at_, nx, a, cs)) (hat_ : (c = 13 ∧ at_ = .int) ∨ (c = 14 ∧ at_ = .boolean)) (hw : Cond.arrayClass (newarray.typeOf at_) ∈ xw)
    (hx : ¬ x < 0 ∧ x.toNatClampNeg = w ∧ w ≤ 10000) (hk : kK (C0 L) n = (c, w)) (hn : n < 107) (hm : cells + 1 ≤ mc ∧ slots + w ≤ ms) (e : n + 1 = n' ∧ cells + 1 = c' ∧ slots + w = s')
    (kk : nxW G X Y L O n' (xrow Z n z0) (xprow P n o0) c' s' nx lv (.ref n :: st)) : nxW G X Y L O n Z P cells slots pc lv (.int x :: st) := by
  obtain ⟨rfl, rfl, rfl⟩ := e
  unfold nxW at kk ⊢
  rw [← ov_row (by omega)] at kk
  exact ax_newa hX hY hs hat_ hw hx.1 hx.2.1 hx.2.2 hk (fun _ _ => rfl) (by omega) hm kk
theorem nx_newq {c w : Nat} {E : String} {x : Int32} (hX : xAmb G X Y d mc ms) (hY : xpOK Y = true) (hs : xlook Y.2.2.2.2.1 pc = some (.anewarray idx, nx, a, cs)) (hE : (c = 15 ∧ E = "HandOverHorse$Stroke") ∨ (c = 16 ∧ E = "HandOverHorse$Text")) (hw : Cond.classLink Y.1.cls idx E ∈ xw)
    (hx : ¬ x < 0 ∧ x.toNatClampNeg = w ∧ w ≤ 10000) (hk : kK (C0 L) n = (c, w)) (hn : n < 107) (hm : cells + 1 ≤ mc ∧ slots + w ≤ ms) (e : n + 1 = n' ∧ cells + 1 = c' ∧ slots + w = s')
    (kk : nxW G X Y L O n' (xrow Z n z0) (xprow P n o0) c' s' nx lv (.ref n :: st)) : nxW G X Y L O n Z P cells slots pc lv (.int x :: st) := by
  obtain ⟨rfl, rfl, rfl⟩ := e
  unfold nxW at kk ⊢
  rw [← ov_row (by omega)] at kk
  exact ax_newq hX hY hs hE hw hx.1 hx.2.1 hx.2.2 hk (fun _ _ => rfl) (by omega) hm kk
theorem nx_putp {c w k q : Nat} (hX : xAmb G X Y d mc ms) (hY : xpOK Y = true) (hC : Y.1.cls = xcn Y.2.2.2.2.2) (hr : r < n) (hk : kK (C0 L) r = (c, w)) (hs : xpf Y pc c = some (k, nx))
    (hfin : (xTc c k).2.2.2 = false ∨ ((xTc c k).2.2.2 = true ∧ Y.1.name = "<init>" ∧ (xTc c k).1 = Y.1.cls)) (ht : (xty c k).isReference = true) (kk : nxW G X Y L O n Z (xup P r k (some q)) cells slots nx lv st) : nxW G X Y L O n Z P cells slots pc lv (.ref q :: .ref r :: st) :=
  ax_putp hX hY hC hr hk hs hfin ht kk
theorem nx_puti {c w k : Nat} {x : Int32} (hX : xAmb G X Y d mc ms) (hY : xpOK Y = true) (hC : Y.1.cls = xcn Y.2.2.2.2.2) (hr : r < n) (hr6 : r < 1000000) (hk : kK (C0 L) r = (c, w)) (hs : xpf Y pc c = some (k, nx))
    (hfin : (xTc c k).2.2.2 = false) (ht : xty c k = .int) (kk : nxW G X Y L O n (xu Z r k x) P cells slots nx lv st) : nxW G X Y L O n Z P cells slots pc lv (.int x :: .ref r :: st) := by
  unfold nxW at kk ⊢
  rw [← ov_u hr6] at kk
  exact ax_puti hX hY hC hr hk hs hfin (Or.inl ht) kk
theorem nx_getp {c w k q : Nat} (hX : xAmb G X Y d mc ms) (hY : xpOK Y = true) (hC : Y.1.cls = xcn Y.2.2.2.2.2) (hr : r < n) (hk : kK (C0 L) r = (c, w)) (hs : xgf Y pc c = some (k, nx)) (ht : (xty c k).isReference = true) (hp : P r k = some q)
    (kk : nxW G X Y L O n Z P cells slots nx lv (.ref q :: st)) : nxW G X Y L O n Z P cells slots pc lv (.ref r :: st) :=
  ax_get (v := .ref q) hX hY hC hr hk hs (xfv_ref ht hp) kk
theorem nx_iast {w j : Nat} {i x : Int32} (hX : xAmb G X Y d mc ms) (hY : xpOK Y = true) (hr : r < n) (hr6 : r < 1000000) (hk : kK (C0 L) r = (13, w)) (hs : xis Y pc xq_iast = some nx) (hi : bnd i w = true) (hj : i.toNatClampNeg = j) (kk : nxW G X Y L O n (xu Z r j x) P cells slots nx lv st) : nxW G X Y L O n Z P cells slots pc lv (.int x :: .int i :: .ref r :: st) := by
  subst hj
  unfold nxW at kk ⊢
  rw [← ov_u hr6] at kk
  exact ax_iast hX hY hr hk hs (bnd_in hi) kk
theorem nx_aast {c w q cq wq j : Nat} {i : Int32} {E : String} (hX : xAmb G X Y d mc ms) (hY : xpOK Y = true) (hr : r < n) (hk : kK (C0 L) r = (c, w)) (hq : q < n) (hkq : kK (C0 L) q = (cq, wq)) (hcq : cq < 13)
    (hE : (c = 15 ∧ E = "HandOverHorse$Stroke") ∨ (c = 16 ∧ E = "HandOverHorse$Text")) (hca : xcn cq = E) (hs : xis Y pc xq_aast = some nx) (hi : bnd i w = true) (hj : i.toNatClampNeg = j) (kk : nxW G X Y L O n Z (xup P r j (some q)) cells slots nx lv st) : nxW G X Y L O n Z P cells slots pc lv (.ref q :: .int i :: .ref r :: st) := by
  subst hj
  exact ax_aast hX hY hr hk hq hkq hcq hE (Or.inl hca) hs (bnd_in hi) kk
theorem nx_str (hX : xAmb G X Y d mc ms) (hY : xpOK Y = true) (hC : Y.1.cls = "HandOverHorse$Text") (hs : xlook Y.2.2.2.2.1 pc = some (.ldc 24, nx, a, cs)) (kk : nxW G X Y L O n Z P cells slots nx lv (.ref 1000002 :: st)) : nxW G X Y L O n Z P cells slots pc lv st :=
  ax_str (j := 2) hX hY hC hs hX.2.2.2.2.2.1.2.1.2.2.1 kk
theorem nx_I (hX : xAmb G X Y d mc ms) (hY : xpOK Y = true) (hs : xlook Y.2.2.2.2.1 pc = some (.invokespecial idx, nx, a, cs)) (hl : xLi Y.1.cls idx Y' np) (hret : Y'.2.2.2.1 = none) (hr : r < 1000000) (hc : nM G d' Y' (.ref r :: as) L O n Z P mc' ms' n' Z' P') (hd' : d' < d) (hn : as.length = np) (hst : st = as.reverse ++ .ref r :: rest) (hr8 : (rest.map fun v => v.category).sum ≤ 8) (hm : cells + mc' ≤ mc ∧ slots + ms' ≤ ms) (e : cells + mc' = c' ∧ slots + ms' = s')
    (kk : nxW G X Y L O n' Z' P' c' s' nx lv rest) : nxW G X Y L O n Z P cells slots pc lv st := by
  obtain ⟨rfl, rfl⟩ := e
  exact ax_I hX hY hs hl hret hr hc hd' hn hst hr8 hm (fun _ _ _ _ _ ⟨h1, h2, h3, h4, h5⟩ => by rw [h1, h2, h3, h4, h5]; exact kk)
theorem nx_vret (hX : xAmb G X Y d mc ms) (hE : xRet G X Y mc ms (nPo L O n Z P)) (hY : xpOK Y = true) (hs : xis Y pc xq_ret = some nx) (ht : Y.2.2.2.1 = none) (hc : cells ≤ mc ∧ slots ≤ ms) : nxW G X Y L O n Z P cells slots pc lv [] :=
  ax_vret hX hE hY hs ht hc ⟨rfl, rfl, rfl, rfl, rfl⟩
theorem nM.of (hy : plainName Y.1.cls = true) (hw : xwid as ≤ Y.2.2.1) {lv : List Value} (hlv : xargs as Y.2.2.1 = lv)
    (body : ∀ X : xC, xAmb G X Y d mc ms → xRet G X Y mc ms (nPo L O n' Z' P') → nxW G X Y L O n Z P 0 0 0 lv []) : nM G d Y as L O n Z P mc ms n' Z' P' := by
  subst hlv
  exact cM.of hy hw body
/-- four rows of forty ints -/
theorem nx_multi (hX : xAmb G X Y d mc ms) (hY : xpOK Y = true) (hC : Y.1.cls = "HandOverHorse") (hs : xlook Y.2.2.2.2.1 pc = some (.multianewarray 33 2, nx, a, cs)) (hk : kK (C0 L) n = (17, 4) ∧ ∀ j, j < 4 → kK (C0 L) (n + 1 + j) = (13, 40)) (hn : n + 5 ≤ 107) (hm : cells + 5 ≤ mc ∧ slots + 164 ≤ ms) (e : n + 5 = n' ∧ cells + 5 = c' ∧ slots + 164 = s')
    (kk : nxW G X Y L O n' (mZ n Z) (mP n P) c' s' nx lv (.ref n :: st)) : nxW G X Y L O n Z P cells slots pc lv (.int 40 :: .int 4 :: st) := by
  obtain ⟨rfl, rfl, rfl⟩ := e
  obtain ⟨hd, -, hlen, -⟩ := xdec hY hs
  obtain rfl : nx = pc + 4 := by simpa [xlen] using hlen
  rw [Nat.add_sub_cancel_left] at hd
  intro H locs ls hR hlo hlv
  have hts := hX.2.2.2.2.1
  have hK := hX.2.2.2.2.2.1.1
  have hsz := hR.1
  have hown := hX.2.2.2.1
  rw [hC] at hown
  refine W_multi (g := F0 _ pc ls (.int 40 :: .int 4 :: st.map (xv G))) hX.1 hX.2.1 hown (hts _ (xw_at 322 (by decide +kernel))) hX.2.2.2.2.2.1.2.2.2.2.1 (hts _ (xw_at 193 (by decide +kernel))) rfl hd rfl (Nat.le_trans hm.1 hX.2.2.2.2.2.2.2.2.1) (Nat.le_trans hm.2 hX.2.2.2.2.2.2.2.2.2.1) fun H1 cA k e1 e2 hz h0 hi ho => ?_
  have hcA : cA = G.2.1 17 := Option.some.inj (e1.symm.trans (hK.2 4 _ rfl).2)
  have hck : k = G.2.1 13 := Option.some.inj (e2.symm.trans (hK.2 0 _ rfl).2)
  have hR' : xR G (n + 5) (kK (C0 L)) (ov (mZ n Z) O) (mP n P) H1 := by
    refine hR.pushm (m := 5) hz ho (fun j hj => ?_) (fun q hq => ⟨?_, ?_⟩) (by omega)
    · by_cases hj0 : j = 0
      · subst hj0
        rw [Nat.add_zero, xE_ref hk.1 (by omega)]
        show H1[G.2.2.1 + n]? = some (arrV (G.2.1 17) 4 (fun j => va_rf (((if n = n then (fun j => if j < 4 then some (n + 1 + j) else none) else if n ≤ n ∧ n < n + 5 then o0 else P n) j).map (xmu G))))
        rw [← hsz, h0, hcA]
        unfold mgO
        congr 2
        funext j
        rw [if_pos rfl]
        by_cases h4 : j < 4
        · rw [if_pos h4, if_pos h4]
          have ex : xmu G (n + 1 + j) = H.size + 1 + j := by
            rw [xmu_new (by omega)]
            omega
          exact congrArg Value.ref ex.symm
        · rw [if_neg h4, if_neg h4]; rfl
      · have hkj := hk.2 (j - 1) (by omega)
        rw [show n + 1 + (j - 1) = n + j by omega] at hkj
        rw [xE_int hkj (by omega) (by omega)]
        have hov : ov (mZ n Z) O (n + j) = z0 := by
          show (if n + j < 1000000 then (if n ≤ n + j ∧ n + j < n + 5 then z0 else Z (n + j)) else O (n + j)) = z0
          rw [if_pos (by omega), if_pos (by omega)]
        rw [hov]
        show H1[G.2.2.1 + (n + j)]? = some (arrV (G.2.1 13) 40 (fun _ => .int 0))
        have h2 := hi (j - 1) (by omega)
        rw [show H.size + 1 + (j - 1) = G.2.2.1 + (n + j) by omega, hck] at h2
        exact h2
    · show (if q < 1000000 then (if n ≤ q ∧ q < n + 5 then z0 else Z q) else O q) = (if q < 1000000 then Z q else O q)
      by_cases hq6 : q < 1000000
      · rw [if_pos hq6, if_pos hq6, if_neg (by omega)]
      · rw [if_neg hq6, if_neg hq6]
    · show (if q = n then _ else if n ≤ q ∧ q < n + 5 then o0 else P q) = P q
      rw [if_neg (by omega), if_neg (by omega)]
  have k2 := kk H1 (locs ++ (List.range 4).map fun j => ⟨H.size, j⟩) ls hR' (fun q hq => by
    rcases List.mem_append.mp hq with h | h
    · exact hlo q h
    · obtain ⟨z, -, hz⟩ := List.mem_map.mp h
      rw [← hz]
      show G.2.2.1 ≤ H.size
      omega) hlv
  have e3 : xv G (.ref n) = .ref H.size := by rw [hsz]; exact congrArg Value.ref (xmu_new (by omega))
  rw [List.map_cons, e3] at k2
  exact k2
end NX
