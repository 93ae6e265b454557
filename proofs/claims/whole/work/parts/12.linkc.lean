theorem xLk_of {own : String} {idx : Nat} {Y' : MI} {np : Nat} (p1 p2 p3 : Nat) (h : (decide (lw_tbl[p1]? = some (.methodLink own idx Y'.1)) && (decide (lw_tbl[p2]? = some (.initialized Y'.1.cls)) && (decide (lw_tbl[p3]? = some (.code Y'.1 Y'.2.1 Y'.2.2.1 Y'.2.2.2.1)) && (decide (Y'.1.cls ≠ "java/lang/invoke/MethodHandle") && (decide (Y'.1.cls ≠ "java/lang/invoke/VarHandle") && (decide ((parseMethodDescriptor Y'.1.desc).map (fun d => d.parameters.length) = some np) && decide (Y'.2.2.1 ≤ 45))))))) = true) : xLk own idx Y' np := by
  simp only [Bool.and_eq_true, decide_eq_true_eq] at h
  obtain ⟨h1, h2, h3, h4, h5, h6, h7⟩ := h
  exact ⟨xw_of (List.mem_of_getElem? h1) rfl, xw_of (List.mem_of_getElem? h2) rfl, xw_of (List.mem_of_getElem? h3) rfl, ⟨h4, h5⟩, h6, h7⟩
theorem xLu_of {own : String} {idx : Nat} {C : String} {x : MethodName} {Y0 Y' : MI} {np : Nat} (p1 p2 p3 p4 p5 p6 p7 p8 : Nat) (h : (decide (lw_tbl[p1]? = some (.methodLink own idx x)) && (decide (lw_tbl[p2]? = some (.sameMethod x.cls Y0.1.cls x.name x.desc)) && (decide (Y0.1 = ⟨Y0.1.cls, x.name, x.desc⟩) && (decide (lw_tbl[p3]? = some (.instanceMethod Y0.1)) && (decide (lw_tbl[p4]? = some (.code Y0.1 Y0.2.1 Y0.2.2.1 Y0.2.2.2.1)) && (decide (lw_tbl[p5]? = some (.selects C x Y'.1)) && (decide (lw_tbl[p6]? = some (.instanceMethod Y'.1)) && (decide (lw_tbl[p7]? = some (.initialized Y'.1.cls)) && (decide (lw_tbl[p8]? = some (.code Y'.1 Y'.2.1 Y'.2.2.1 Y'.2.2.2.1)) && (decide (Y0.1.cls ≠ "java/lang/invoke/MethodHandle") && (decide (Y0.1.cls ≠ "java/lang/invoke/VarHandle") && (decide ((parseMethodDescriptor x.desc).map (fun d => d.parameters.length) = some np) && decide (Y'.2.2.1 ≤ 45))))))))))))) = true) : xLu own idx C x Y0 Y' np := by
  simp only [Bool.and_eq_true, decide_eq_true_eq] at h
  obtain ⟨h1, h2, g0, g1, g2, h3, h4, h5, h6, h7, h8, h9, h10⟩ := h
  exact ⟨xw_of (List.mem_of_getElem? h1) rfl, xw_of (List.mem_of_getElem? h2) rfl, ⟨g0, xw_of (List.mem_of_getElem? g1) rfl, xw_of (List.mem_of_getElem? g2) rfl⟩, xw_of (List.mem_of_getElem? h3) rfl, xw_of (List.mem_of_getElem? h4) rfl, xw_of (List.mem_of_getElem? h5) rfl, xw_of (List.mem_of_getElem? h6) rfl, ⟨h7, h8⟩, h9, h10⟩
theorem xLsu_of {own : String} {idx : Nat} {Y' : MI} {np : Nat} (p1 p2 p3 p4 p5 p6 : Nat) (h : (decide (lw_tbl[p1]? = some (.methodLink own idx Y'.1)) && (decide (lw_tbl[p2]? = some (.sameMethod Y'.1.cls Y'.1.cls Y'.1.name Y'.1.desc)) && (decide (lw_tbl[p3]? = some (.superclass own Y'.1.cls)) && (decide (lw_tbl[p4]? = some (.instanceMethod Y'.1)) && (decide (lw_tbl[p5]? = some (.initialized Y'.1.cls)) && (decide (lw_tbl[p6]? = some (.code Y'.1 Y'.2.1 Y'.2.2.1 Y'.2.2.2.1)) && (decide (Y'.1.name ≠ "<init>") && (decide ((parseMethodDescriptor Y'.1.desc).map (fun d => d.parameters.length) = some np) && decide (Y'.2.2.1 ≤ 45))))))))) = true) : xLsu own idx Y' np := by
  simp only [Bool.and_eq_true, decide_eq_true_eq] at h
  obtain ⟨h1, h2, h3, h4, h5, h6, h7, h8, h9⟩ := h
  exact ⟨xw_of (List.mem_of_getElem? h1) rfl, xw_of (List.mem_of_getElem? h2) rfl, xw_of (List.mem_of_getElem? h3) rfl, xw_of (List.mem_of_getElem? h4) rfl, xw_of (List.mem_of_getElem? h5) rfl, xw_of (List.mem_of_getElem? h6) rfl, h7, h8, h9⟩
theorem xLsS_of {own : String} {idx : Nat} {x : MethodName} {Y' : MI} {np : Nat} (p1 p2 p3 p4 p5 : Nat) (h : (decide (lw_tbl[p1]? = some (.methodLink own idx x)) && (decide (lw_tbl[p2]? = some (.sameMethod x.cls Y'.1.cls x.name x.desc)) && (decide (Y'.1 = ⟨Y'.1.cls, x.name, x.desc⟩) && (decide (lw_tbl[p3]? = some (.static Y'.1)) && (decide (lw_tbl[p4]? = some (.initialized Y'.1.cls)) && (decide (lw_tbl[p5]? = some (.code Y'.1 Y'.2.1 Y'.2.2.1 Y'.2.2.2.1)) && (decide (Y'.1.cls ≠ "java/lang/invoke/MethodHandle") && (decide (Y'.1.cls ≠ "java/lang/invoke/VarHandle") && (decide ((parseMethodDescriptor Y'.1.desc).map (fun d => d.parameters.length) = some np) && decide (Y'.2.2.1 ≤ 45)))))))))) = true) : xLsS own idx x Y' np := by
  simp only [Bool.and_eq_true, decide_eq_true_eq] at h
  obtain ⟨h1, h2, h3, h4, h5, h6, h7, h8, h9, h10⟩ := h
  exact ⟨xw_of (List.mem_of_getElem? h1) rfl, xw_of (List.mem_of_getElem? h2) rfl, h3, xw_of (List.mem_of_getElem? h4) rfl, xw_of (List.mem_of_getElem? h5) rfl, xw_of (List.mem_of_getElem? h6) rfl, ⟨h7, h8⟩, h9, h10⟩
theorem xLsx_of {own : String} {idx : Nat} {x : MethodName} {Y' : MI} {np : Nat} (p1 p2 p3 p4 p5 p6 p7 : Nat) (h : (decide (lw_tbl[p1]? = some (.methodLink own idx x)) && (decide (lw_tbl[p2]? = some (.sameMethod x.cls Y'.1.cls x.name x.desc)) && (decide (Y'.1 = ⟨Y'.1.cls, x.name, x.desc⟩) && (decide (lw_tbl[p3]? = some (.superclass own x.cls)) && (decide (lw_tbl[p4]? = some (.superclass x.cls Y'.1.cls)) && (decide (lw_tbl[p5]? = some (.instanceMethod Y'.1)) && (decide (lw_tbl[p6]? = some (.initialized Y'.1.cls)) && (decide (lw_tbl[p7]? = some (.code Y'.1 Y'.2.1 Y'.2.2.1 Y'.2.2.2.1)) && (decide (x.name ≠ "<init>") && (decide ((parseMethodDescriptor Y'.1.desc).map (fun d => d.parameters.length) = some np) && decide (Y'.2.2.1 ≤ 45))))))))))) = true) : xLsx own idx x Y' np := by
  simp only [Bool.and_eq_true, decide_eq_true_eq] at h
  obtain ⟨h1, h2, h3, h4, h5, h6, h7, h8, h9, h10, h11⟩ := h
  exact ⟨xw_of (List.mem_of_getElem? h1) rfl, xw_of (List.mem_of_getElem? h2) rfl, h3, xw_of (List.mem_of_getElem? h4) rfl, xw_of (List.mem_of_getElem? h5) rfl, xw_of (List.mem_of_getElem? h6) rfl, xw_of (List.mem_of_getElem? h7) rfl, xw_of (List.mem_of_getElem? h8) rfl, h9, h10, h11⟩
theorem xw_at {w : Cond} (p : Nat) (h : (decide (lw_tbl[p]? = some w) && goodWord w) = true) : w ∈ xw := by
  simp only [Bool.and_eq_true, decide_eq_true_eq] at h
  exact xw_of (List.mem_of_getElem? h.1) h.2
def sel_draws (c : Nat) : MI := match c with
  | 0 => m_Stroke_draws
  | 1 => m_Stroke_draws
  | 2 => m_Black_draws
  | 3 => m_Stroke_draws
  | 4 => m_Stroke_draws
  | 5 => m_Black_draws
  | _ => m_Stroke_draws
def sel_dries (c : Nat) : MI := match c with
  | 0 => m_Stroke_dries
  | 1 => m_Red_dries
  | 2 => m_Stroke_dries
  | 3 => m_Stroke_dries
  | 4 => m_Child_dries
  | 5 => m_Stroke_dries
  | _ => m_Stroke_dries
def sel_peels (c : Nat) : MI := match c with
  | 0 => m_Stroke_peels
  | 1 => m_Stroke_peels
  | 2 => m_Stroke_peels
  | 3 => m_Scratch_peels
  | 4 => m_Stroke_peels
  | 5 => m_Stroke_peels
  | _ => m_Forged_peels
def sel_kind (c : Nat) : MI := match c with
  | 0 => m_Stroke_kind
  | 1 => m_Red_kind
  | 2 => m_Black_kind
  | 3 => m_Scratch_kind
  | 4 => m_Child_kind
  | 5 => m_Soot_kind
  | _ => m_Forged_kind
def sel_copyFrom (c : Nat) : MI := match c with
  | 0 => m_Stroke_copyFrom
  | 1 => m_Stroke_copyFrom
  | 2 => m_Stroke_copyFrom
  | 3 => m_Stroke_copyFrom
  | 4 => m_Stroke_copyFrom
  | 5 => m_Stroke_copyFrom
  | _ => m_Stroke_copyFrom
def sel_early (c : Nat) : MI := match c with
  | 0 => m_Stroke_early
  | 1 => m_Red_early
  | 2 => m_Stroke_early
  | 3 => m_Scratch_early
  | 4 => m_Child_early
  | 5 => m_Soot_early
  | _ => m_Forged_early
def sel_late (c : Nat) : MI := match c with
  | 0 => m_Stroke_late
  | 1 => m_Stroke_late
  | 2 => m_Black_late
  | 3 => m_Stroke_late
  | 4 => m_Child_late
  | 5 => m_Soot_late
  | _ => m_Forged_late
def sel_stuff (c : Nat) : MI := match c with
  | 0 => m_Stroke_stuff
  | 1 => m_Red_stuff
  | 2 => m_Black_stuff
  | 3 => m_Scratch_stuff
  | 4 => m_Red_stuff
  | 5 => m_Black_stuff
  | _ => m_Scratch_stuff
def sel_gap (c : Nat) : MI := match c with
  | 0 => m_Stroke_gap
  | 1 => m_Red_gap
  | 2 => m_Stroke_gap
  | 3 => m_Scratch_gap
  | 4 => m_Child_gap
  | 5 => m_Soot_gap
  | _ => m_Forged_gap
def sel_part (c : Nat) : MI := match c with
  | 0 => m_Stroke_part
  | 1 => m_Stroke_part
  | 2 => m_Stroke_part
  | 3 => m_Stroke_part
  | 4 => m_Stroke_part
  | 5 => m_Stroke_part
  | _ => m_Stroke_part
def sel_setPart (c : Nat) : MI := match c with
  | 0 => m_Stroke_setPart
  | 1 => m_Stroke_setPart
  | 2 => m_Stroke_setPart
  | 3 => m_Stroke_setPart
  | 4 => m_Stroke_setPart
  | 5 => m_Stroke_setPart
  | _ => m_Stroke_setPart
def sel_isOf (c : Nat) : MI := match c with
  | 0 => m_Stroke_isOf
  | 1 => m_Red_isOf
  | 2 => m_Black_isOf
  | 3 => m_Scratch_isOf
  | 4 => m_Child_isOf
  | 5 => m_Soot_isOf
  | _ => m_Forged_isOf
def sel_tells (c : Nat) : MI := match c with
  | 0 => m_Stroke_tells
  | 1 => m_Stroke_tells
  | 2 => m_Stroke_tells
  | 3 => m_Stroke_tells
  | 4 => m_Stroke_tells
  | 5 => m_Soot_tells
  | _ => m_Forged_tells
theorem l_Stroke_3 : Cond.methodLink "HandOverHorse$Stroke" 3 Lib.objectInit ∈ xw ∧ Cond.instanceMethod Lib.objectInit ∈ xw ∧ Cond.code Lib.objectInit ⟨#[0xb1]⟩ 1 none ∈ xw := ⟨xw_at 116 (by decide +kernel), xw_at 102 (by decide +kernel), xw_at 103 (by decide +kernel)⟩
theorem l_Stroke_33 : xLs "HandOverHorse$Stroke" 33 m_Stroke_begin 2 := ⟨xLk_of 1128 77 1120 (by decide +kernel), xw_at 1119 (by decide +kernel)⟩
theorem l_Stroke_37_0 : xLu "HandOverHorse$Stroke" 37 (xcn 0) ⟨"HandOverHorse$Stroke", "draws", "([II)I"⟩ m_Stroke_draws m_Stroke_draws 2 := xLu_of 1157 1113 1111 1127 1112 1111 77 1127 (by decide +kernel)
theorem l_Stroke_37_1 : xLu "HandOverHorse$Stroke" 37 (xcn 1) ⟨"HandOverHorse$Stroke", "draws", "([II)I"⟩ m_Stroke_draws m_Stroke_draws 2 := xLu_of 1157 1113 1111 1127 1124 1111 77 1127 (by decide +kernel)
theorem l_Stroke_37_2 : xLu "HandOverHorse$Stroke" 37 (xcn 2) ⟨"HandOverHorse$Stroke", "draws", "([II)I"⟩ m_Stroke_draws m_Black_draws 2 := xLu_of 1157 1113 1111 1127 1114 1115 83 1116 (by decide +kernel)
theorem l_Stroke_37_3 : xLu "HandOverHorse$Stroke" 37 (xcn 3) ⟨"HandOverHorse$Stroke", "draws", "([II)I"⟩ m_Stroke_draws m_Stroke_draws 2 := xLu_of 1157 1113 1111 1127 1125 1111 77 1127 (by decide +kernel)
theorem l_Stroke_37_4 : xLu "HandOverHorse$Stroke" 37 (xcn 4) ⟨"HandOverHorse$Stroke", "draws", "([II)I"⟩ m_Stroke_draws m_Stroke_draws 2 := xLu_of 1157 1113 1111 1127 1122 1111 77 1127 (by decide +kernel)
theorem l_Stroke_37_5 : xLu "HandOverHorse$Stroke" 37 (xcn 5) ⟨"HandOverHorse$Stroke", "draws", "([II)I"⟩ m_Stroke_draws m_Black_draws 2 := xLu_of 1157 1113 1111 1127 1126 1115 83 1116 (by decide +kernel)
theorem l_Stroke_37_6 : xLu "HandOverHorse$Stroke" 37 (xcn 6) ⟨"HandOverHorse$Stroke", "draws", "([II)I"⟩ m_Stroke_draws m_Stroke_draws 2 := xLu_of 1157 1113 1111 1127 1123 1111 77 1127 (by decide +kernel)
theorem l_Stroke_37 {c : Nat} (h : c < 7) : xLu "HandOverHorse$Stroke" 37 (xcn c) ⟨"HandOverHorse$Stroke", "draws", "([II)I"⟩ m_Stroke_draws (sel_draws c) 2 := by
  rcases (show c = 0 ∨ c = 1 ∨ c = 2 ∨ c = 3 ∨ c = 4 ∨ c = 5 ∨ c = 6 by omega) with rfl | rfl | rfl | rfl | rfl | rfl | rfl
  · exact l_Stroke_37_0
  · exact l_Stroke_37_1
  · exact l_Stroke_37_2
  · exact l_Stroke_37_3
  · exact l_Stroke_37_4
  · exact l_Stroke_37_5
  · exact l_Stroke_37_6
theorem l_Stroke_41_0 : xLu "HandOverHorse$Stroke" 41 (xcn 0) ⟨"HandOverHorse$Stroke", "dries", "([II)I"⟩ m_Stroke_dries m_Stroke_dries 2 := xLu_of 1199 1132 1130 1156 1131 1130 77 1156 (by decide +kernel)
theorem l_Stroke_41_1 : xLu "HandOverHorse$Stroke" 41 (xcn 1) ⟨"HandOverHorse$Stroke", "dries", "([II)I"⟩ m_Stroke_dries m_Red_dries 2 := xLu_of 1199 1132 1130 1156 1153 1140 82 1141 (by decide +kernel)
theorem l_Stroke_41_2 : xLu "HandOverHorse$Stroke" 41 (xcn 2) ⟨"HandOverHorse$Stroke", "dries", "([II)I"⟩ m_Stroke_dries m_Stroke_dries 2 := xLu_of 1199 1132 1130 1156 1133 1130 77 1156 (by decide +kernel)
theorem l_Stroke_41_3 : xLu "HandOverHorse$Stroke" 41 (xcn 3) ⟨"HandOverHorse$Stroke", "dries", "([II)I"⟩ m_Stroke_dries m_Stroke_dries 2 := xLu_of 1199 1132 1130 1156 1154 1130 77 1156 (by decide +kernel)
theorem l_Stroke_41_4 : xLu "HandOverHorse$Stroke" 41 (xcn 4) ⟨"HandOverHorse$Stroke", "dries", "([II)I"⟩ m_Stroke_dries m_Child_dries 2 := xLu_of 1199 1132 1130 1156 1134 1135 85 1136 (by decide +kernel)
theorem l_Stroke_41_5 : xLu "HandOverHorse$Stroke" 41 (xcn 5) ⟨"HandOverHorse$Stroke", "dries", "([II)I"⟩ m_Stroke_dries m_Stroke_dries 2 := xLu_of 1199 1132 1130 1156 1155 1130 77 1156 (by decide +kernel)
theorem l_Stroke_41_6 : xLu "HandOverHorse$Stroke" 41 (xcn 6) ⟨"HandOverHorse$Stroke", "dries", "([II)I"⟩ m_Stroke_dries m_Stroke_dries 2 := xLu_of 1199 1132 1130 1156 1152 1130 77 1156 (by decide +kernel)
theorem l_Stroke_41 {c : Nat} (h : c < 7) : xLu "HandOverHorse$Stroke" 41 (xcn c) ⟨"HandOverHorse$Stroke", "dries", "([II)I"⟩ m_Stroke_dries (sel_dries c) 2 := by
  rcases (show c = 0 ∨ c = 1 ∨ c = 2 ∨ c = 3 ∨ c = 4 ∨ c = 5 ∨ c = 6 by omega) with rfl | rfl | rfl | rfl | rfl | rfl | rfl
  · exact l_Stroke_41_0
  · exact l_Stroke_41_1
  · exact l_Stroke_41_2
  · exact l_Stroke_41_3
  · exact l_Stroke_41_4
  · exact l_Stroke_41_5
  · exact l_Stroke_41_6
theorem l_Stroke_44_0 : xLu "HandOverHorse$Stroke" 44 (xcn 0) ⟨"HandOverHorse$Stroke", "peels", "([II)I"⟩ m_Stroke_peels m_Stroke_peels 2 := xLu_of 1200 1783 1150 1151 1791 1150 77 1151 (by decide +kernel)
theorem l_Stroke_44_1 : xLu "HandOverHorse$Stroke" 44 (xcn 1) ⟨"HandOverHorse$Stroke", "peels", "([II)I"⟩ m_Stroke_peels m_Stroke_peels 2 := xLu_of 1200 1783 1150 1151 1788 1150 77 1151 (by decide +kernel)
theorem l_Stroke_44_2 : xLu "HandOverHorse$Stroke" 44 (xcn 2) ⟨"HandOverHorse$Stroke", "peels", "([II)I"⟩ m_Stroke_peels m_Stroke_peels 2 := xLu_of 1200 1783 1150 1151 1784 1150 77 1151 (by decide +kernel)
theorem l_Stroke_44_3 : xLu "HandOverHorse$Stroke" 44 (xcn 3) ⟨"HandOverHorse$Stroke", "peels", "([II)I"⟩ m_Stroke_peels m_Scratch_peels 2 := xLu_of 1200 1783 1150 1151 1789 1164 84 1165 (by decide +kernel)
theorem l_Stroke_44_4 : xLu "HandOverHorse$Stroke" 44 (xcn 4) ⟨"HandOverHorse$Stroke", "peels", "([II)I"⟩ m_Stroke_peels m_Stroke_peels 2 := xLu_of 1200 1783 1150 1151 1785 1150 77 1151 (by decide +kernel)
theorem l_Stroke_44_5 : xLu "HandOverHorse$Stroke" 44 (xcn 5) ⟨"HandOverHorse$Stroke", "peels", "([II)I"⟩ m_Stroke_peels m_Stroke_peels 2 := xLu_of 1200 1783 1150 1151 1790 1150 77 1151 (by decide +kernel)
theorem l_Stroke_44_6 : xLu "HandOverHorse$Stroke" 44 (xcn 6) ⟨"HandOverHorse$Stroke", "peels", "([II)I"⟩ m_Stroke_peels m_Forged_peels 2 := xLu_of 1200 1783 1150 1151 1786 1159 87 1160 (by decide +kernel)
theorem l_Stroke_44 {c : Nat} (h : c < 7) : xLu "HandOverHorse$Stroke" 44 (xcn c) ⟨"HandOverHorse$Stroke", "peels", "([II)I"⟩ m_Stroke_peels (sel_peels c) 2 := by
  rcases (show c = 0 ∨ c = 1 ∨ c = 2 ∨ c = 3 ∨ c = 4 ∨ c = 5 ∨ c = 6 by omega) with rfl | rfl | rfl | rfl | rfl | rfl | rfl
  · exact l_Stroke_44_0
  · exact l_Stroke_44_1
  · exact l_Stroke_44_2
  · exact l_Stroke_44_3
  · exact l_Stroke_44_4
  · exact l_Stroke_44_5
  · exact l_Stroke_44_6
theorem l_Red_1 : xLi "HandOverHorse$Red" 1 m_Stroke_init 0 := ⟨xLk_of 379 77 115 (by decide +kernel), xw_at 114 (by decide +kernel), rfl⟩
theorem l_Red_7 : xLsu "HandOverHorse$Red" 7 m_Stroke_isOf 1 := xLsu_of 664 653 387 651 77 678 (by decide +kernel)
theorem l_Red_11 : xLsu "HandOverHorse$Red" 11 m_Stroke_early 0 := xLsu_of 515 507 387 505 77 534 (by decide +kernel)
theorem l_Red_21 : xLsu "HandOverHorse$Red" 21 m_Stroke_gap 0 := xLsu_of 1011 997 387 995 77 1019 (by decide +kernel)
theorem l_Red_24 : xLsS "HandOverHorse$Red" 24 ⟨"HandOverHorse$Red", "begin", "([II)V"⟩ m_Stroke_begin 2 := xLsS_of 1142 1143 1119 77 1120 (by decide +kernel)
theorem l_Red_28 : xLsu "HandOverHorse$Red" 28 m_Stroke_dries 2 := xLsu_of 1144 1132 387 1130 77 1156 (by decide +kernel)
theorem l_Red_32_1 : xLu "HandOverHorse$Red" 32 (xcn 1) ⟨"HandOverHorse$Red", "peels", "([II)I"⟩ m_Stroke_peels m_Stroke_peels 2 := xLu_of 1145 1146 1150 1151 1149 1150 77 1151 (by decide +kernel)
theorem l_Red_32_4 : xLu "HandOverHorse$Red" 32 (xcn 4) ⟨"HandOverHorse$Red", "peels", "([II)I"⟩ m_Stroke_peels m_Stroke_peels 2 := xLu_of 1145 1146 1150 1151 1148 1150 77 1151 (by decide +kernel)
theorem l_Red_32 {c : Nat} (h : c = 1 ∨ c = 4) : xLu "HandOverHorse$Red" 32 (xcn c) ⟨"HandOverHorse$Red", "peels", "([II)I"⟩ m_Stroke_peels m_Stroke_peels 2 := by
  rcases h with rfl | rfl
  · exact l_Red_32_1
  · exact l_Red_32_4
theorem l_Black_1 : xLi "HandOverHorse$Black" 1 m_Stroke_init 0 := ⟨xLk_of 393 77 115 (by decide +kernel), xw_at 114 (by decide +kernel), rfl⟩
theorem l_Black_7 : xLsu "HandOverHorse$Black" 7 m_Stroke_isOf 1 := xLsu_of 657 653 401 651 77 678 (by decide +kernel)
theorem l_Black_11 : xLsu "HandOverHorse$Black" 11 m_Stroke_late 0 := xLsu_of 576 572 401 570 77 592 (by decide +kernel)
theorem l_Black_21 : xLsS "HandOverHorse$Black" 21 ⟨"HandOverHorse$Black", "begin", "([II)V"⟩ m_Stroke_begin 2 := xLsS_of 1117 1118 1119 77 1120 (by decide +kernel)
theorem l_Black_25 : xLsu "HandOverHorse$Black" 25 m_Stroke_draws 2 := xLsu_of 1121 1113 401 1111 77 1127 (by decide +kernel)
theorem l_Scratch_1 : xLi "HandOverHorse$Scratch" 1 m_Stroke_init 0 := ⟨xLk_of 407 77 115 (by decide +kernel), xw_at 114 (by decide +kernel), rfl⟩
theorem l_Scratch_7 : xLsu "HandOverHorse$Scratch" 7 m_Stroke_isOf 1 := xLsu_of 671 653 415 651 77 678 (by decide +kernel)
theorem l_Scratch_11 : xLsu "HandOverHorse$Scratch" 11 m_Stroke_early 0 := xLsu_of 522 507 415 505 77 534 (by decide +kernel)
theorem l_Scratch_21 : xLsS "HandOverHorse$Scratch" 21 ⟨"HandOverHorse$Scratch", "begin", "([II)V"⟩ m_Stroke_begin 2 := xLsS_of 1166 1167 1119 77 1120 (by decide +kernel)
theorem l_Scratch_25 : xLsu "HandOverHorse$Scratch" 25 m_Stroke_peels 2 := xLsu_of 1168 1783 415 1150 77 1151 (by decide +kernel)
theorem l_Child_1 : xLi "HandOverHorse$Child" 1 m_Red_init 0 := ⟨xLk_of 421 82 378 (by decide +kernel), xw_at 377 (by decide +kernel), rfl⟩
theorem l_Child_7 : xLsu "HandOverHorse$Child" 7 m_Red_isOf 1 := xLsu_of 661 1778 429 662 82 663 (by decide +kernel)
theorem l_Child_11 : xLsu "HandOverHorse$Child" 11 m_Red_early 0 := xLsu_of 512 1775 429 513 82 514 (by decide +kernel)
theorem l_Child_15 : xLsx "HandOverHorse$Child" 15 ⟨"HandOverHorse$Red", "late", "()I"⟩ m_Stroke_late 0 := xLsx_of 580 581 429 387 570 77 592 (by decide +kernel)
theorem l_Child_24 : xLsS "HandOverHorse$Child" 24 ⟨"HandOverHorse$Child", "begin", "([II)V"⟩ m_Stroke_begin 2 := xLsS_of 1137 1138 1119 77 1120 (by decide +kernel)
theorem l_Child_28 : xLsu "HandOverHorse$Child" 28 m_Red_dries 2 := xLsu_of 1139 1782 429 1140 82 1141 (by decide +kernel)
theorem l_Soot_1 : xLi "HandOverHorse$Soot" 1 m_Black_init 0 := ⟨xLk_of 435 83 392 (by decide +kernel), xw_at 391 (by decide +kernel), rfl⟩
theorem l_Soot_7 : xLsu "HandOverHorse$Soot" 7 m_Black_isOf 1 := xLsu_of 677 1780 443 655 83 656 (by decide +kernel)
theorem l_Soot_11 : xLsx "HandOverHorse$Soot" 11 ⟨"HandOverHorse$Black", "early", "()I"⟩ m_Stroke_early 0 := xLsx_of 531 532 443 401 505 77 534 (by decide +kernel)
theorem l_Soot_21 : xLsu "HandOverHorse$Soot" 21 m_Black_late 0 := xLsu_of 591 1777 443 574 83 575 (by decide +kernel)
theorem l_Soot_24 : xLsx "HandOverHorse$Soot" 24 ⟨"HandOverHorse$Black", "gap", "()I"⟩ m_Stroke_gap 0 := xLsx_of 1016 1017 443 401 995 77 1019 (by decide +kernel)
theorem l_Soot_27 : xLsS "HandOverHorse$Soot" 27 ⟨"HandOverHorse$Soot", "begin", "([II)V"⟩ m_Stroke_begin 2 := xLsS_of 1190 1191 1119 77 1120 (by decide +kernel)
theorem l_Soot_31 : xLsx "HandOverHorse$Soot" 31 ⟨"HandOverHorse$Black", "tells", "([II)I"⟩ m_Stroke_tells 2 := xLsx_of 1192 1193 443 401 1170 77 1198 (by decide +kernel)
theorem l_Soot_35_5 : xLu "HandOverHorse$Soot" 35 (xcn 5) ⟨"HandOverHorse$Soot", "draws", "([II)I"⟩ m_Black_draws m_Black_draws 2 := xLu_of 1194 1195 1115 1116 1197 1115 83 1116 (by decide +kernel)
theorem l_Soot_35 {c : Nat} (h : c = 5) : xLu "HandOverHorse$Soot" 35 (xcn c) ⟨"HandOverHorse$Soot", "draws", "([II)I"⟩ m_Black_draws m_Black_draws 2 := by
  subst h; exact l_Soot_35_5
theorem l_Forged_3 : xLi "HandOverHorse$Forged" 3 m_Scratch_init 0 := ⟨xLk_of 449 84 406 (by decide +kernel), xw_at 405 (by decide +kernel), rfl⟩
theorem l_Forged_9 : xLsu "HandOverHorse$Forged" 9 m_Scratch_isOf 1 := xLsu_of 668 1779 457 669 84 670 (by decide +kernel)
theorem l_Forged_13 : xLsu "HandOverHorse$Forged" 13 m_Scratch_early 0 := xLsu_of 519 1776 457 520 84 521 (by decide +kernel)
theorem l_Forged_17 : xLs "HandOverHorse$Forged" 17 m_Math_max 2 := ⟨xLk_of 523 88 525 (by decide +kernel), xw_at 524 (by decide +kernel)⟩
theorem l_Forged_23 : xLsu "HandOverHorse$Forged" 23 m_Scratch_gap 0 := xLsu_of 1005 1781 457 1006 84 1007 (by decide +kernel)
theorem l_Forged_32 : xLsS "HandOverHorse$Forged" 32 ⟨"HandOverHorse$Forged", "begin", "([II)V"⟩ m_Stroke_begin 2 := xLsS_of 1161 1162 1119 77 1120 (by decide +kernel)
theorem l_Forged_36 : xLsu "HandOverHorse$Forged" 36 m_Scratch_peels 2 := xLsu_of 1163 1787 457 1164 84 1165 (by decide +kernel)
theorem l_Forged_43_6 : xLu "HandOverHorse$Forged" 43 (xcn 6) ⟨"HandOverHorse$Forged", "dries", "([II)I"⟩ m_Stroke_dries m_Stroke_dries 2 := xLu_of 1178 1179 1130 1156 1181 1130 77 1156 (by decide +kernel)
theorem l_Forged_43 {c : Nat} (h : c = 6) : xLu "HandOverHorse$Forged" 43 (xcn c) ⟨"HandOverHorse$Forged", "dries", "([II)I"⟩ m_Stroke_dries m_Stroke_dries 2 := by
  subst h; exact l_Forged_43_6
theorem l_Forged_46 : xLsx "HandOverHorse$Forged" 46 ⟨"HandOverHorse$Scratch", "tells", "([II)I"⟩ m_Stroke_tells 2 := xLsx_of 1182 1183 457 415 1170 77 1198 (by decide +kernel)
theorem l_Text_3 : Cond.methodLink "HandOverHorse$Text" 3 Lib.objectInit ∈ xw ∧ Cond.instanceMethod Lib.objectInit ∈ xw ∧ Cond.code Lib.objectInit ⟨#[0xb1]⟩ 1 none ∈ xw := ⟨xw_at 166 (by decide +kernel), xw_at 102 (by decide +kernel), xw_at 103 (by decide +kernel)⟩
theorem l_Text_40 : xLv "HandOverHorse$Text" 40 m_Text_readLevel 2 := ⟨xLk_of 739 78 742 (by decide +kernel), xw_at 741 (by decide +kernel), xw_at 2 (by decide +kernel)⟩
theorem l_Text_44 : xLv "HandOverHorse$Text" 44 m_Text_readLeaf 1 := ⟨xLk_of 743 78 746 (by decide +kernel), xw_at 745 (by decide +kernel), xw_at 3 (by decide +kernel)⟩
theorem l_Text_48 : xLv "HandOverHorse$Text" 48 m_Text_here 0 := ⟨xLk_of 747 78 750 (by decide +kernel), xw_at 749 (by decide +kernel), xw_at 4 (by decide +kernel)⟩
theorem l_Text_52 : xLs "HandOverHorse$Text" 52 m_Text_levelOf 1 := ⟨xLk_of 852 78 854 (by decide +kernel), xw_at 853 (by decide +kernel)⟩
theorem l_Text_56 : xLv "HandOverHorse$Text" 56 m_Text_addStep 2 := ⟨xLk_of 758 78 761 (by decide +kernel), xw_at 760 (by decide +kernel), xw_at 6 (by decide +kernel)⟩
theorem l_Text_60 : xLs "HandOverHorse$Text" 60 m_Text_isDigit 1 := ⟨xLk_of 751 78 753 (by decide +kernel), xw_at 752 (by decide +kernel)⟩
theorem l_Text_63 : xLv "HandOverHorse$Text" 63 m_Text_readNumber 0 := ⟨xLk_of 754 78 757 (by decide +kernel), xw_at 756 (by decide +kernel), xw_at 5 (by decide +kernel)⟩
theorem l_Text_66 : xLv "HandOverHorse$Text" 66 m_Text_readNot 1 := ⟨xLk_of 762 78 765 (by decide +kernel), xw_at 764 (by decide +kernel), xw_at 7 (by decide +kernel)⟩
theorem l_Text_69 : xLv "HandOverHorse$Text" 69 m_Text_readBracket 1 := ⟨xLk_of 766 78 769 (by decide +kernel), xw_at 768 (by decide +kernel), xw_at 8 (by decide +kernel)⟩
theorem l_Text_77 : xLs "HandOverHorse$Text" 77 m_Text_named 5 := ⟨xLk_of 552 78 554 (by decide +kernel), xw_at 553 (by decide +kernel)⟩
theorem l_Text_81 : xLs "HandOverHorse$Text" 81 m_Text_joined 3 := ⟨xLk_of 555 78 557 (by decide +kernel), xw_at 556 (by decide +kernel)⟩
theorem l_Wall_3 : Cond.methodLink "HandOverHorse$Wall" 3 Lib.objectInit ∈ xw ∧ Cond.instanceMethod Lib.objectInit ∈ xw ∧ Cond.code Lib.objectInit ⟨#[0xb1]⟩ 1 none ∈ xw := ⟨xw_at 109 (by decide +kernel), xw_at 102 (by decide +kernel), xw_at 103 (by decide +kernel)⟩
theorem la_Wall_9 : Cond.classLink "HandOverHorse$Wall" 9 "HandOverHorse$Stroke" ∈ xw := xw_at 110 (by decide +kernel)
theorem l_Wall_9 : Cond.classLink "HandOverHorse$Wall" 9 (xcn 0) ∈ xw ∧ Cond.instantiable (xcn 0) (xN 0) ∈ xw ∧ Cond.initialized (xcn 0) ∈ xw := ⟨xw_at 110 (by decide +kernel), xw_at 112 (by decide +kernel), xw_at 77 (by decide +kernel)⟩
theorem l_Wall_17 : xLi "HandOverHorse$Wall" 17 m_Stroke_init 0 := ⟨xLk_of 113 77 115 (by decide +kernel), xw_at 114 (by decide +kernel), rfl⟩
theorem la_Wall_31 : Cond.classLink "HandOverHorse$Wall" 31 "HandOverHorse$Text" ∈ xw := xw_at 160 (by decide +kernel)
theorem l_Wall_31 : Cond.classLink "HandOverHorse$Wall" 31 (xcn 7) ∈ xw ∧ Cond.instantiable (xcn 7) (xN 7) ∈ xw ∧ Cond.initialized (xcn 7) ∈ xw := ⟨xw_at 160 (by decide +kernel), xw_at 162 (by decide +kernel), xw_at 78 (by decide +kernel)⟩
theorem l_Wall_37 : xLi "HandOverHorse$Wall" 37 m_Text_init 0 := ⟨xLk_of 163 78 165 (by decide +kernel), xw_at 164 (by decide +kernel), rfl⟩
theorem l_Wall_52_0 : xLu "HandOverHorse$Wall" 52 (xcn 0) ⟨"HandOverHorse$Stroke", "kind", "()I"⟩ m_Stroke_kind m_Stroke_kind 0 := xLu_of 539 469 467 488 468 467 77 488 (by decide +kernel)
theorem l_Wall_52_1 : xLu "HandOverHorse$Wall" 52 (xcn 1) ⟨"HandOverHorse$Stroke", "kind", "()I"⟩ m_Stroke_kind m_Red_kind 0 := xLu_of 539 469 467 488 479 480 82 481 (by decide +kernel)
theorem l_Wall_52_2 : xLu "HandOverHorse$Wall" 52 (xcn 2) ⟨"HandOverHorse$Stroke", "kind", "()I"⟩ m_Stroke_kind m_Black_kind 0 := xLu_of 539 469 467 488 470 471 83 472 (by decide +kernel)
theorem l_Wall_52_3 : xLu "HandOverHorse$Wall" 52 (xcn 3) ⟨"HandOverHorse$Stroke", "kind", "()I"⟩ m_Stroke_kind m_Scratch_kind 0 := xLu_of 539 469 467 488 482 483 84 484 (by decide +kernel)
theorem l_Wall_52_4 : xLu "HandOverHorse$Wall" 52 (xcn 4) ⟨"HandOverHorse$Stroke", "kind", "()I"⟩ m_Stroke_kind m_Child_kind 0 := xLu_of 539 469 467 488 473 474 85 475 (by decide +kernel)
theorem l_Wall_52_5 : xLu "HandOverHorse$Wall" 52 (xcn 5) ⟨"HandOverHorse$Stroke", "kind", "()I"⟩ m_Stroke_kind m_Soot_kind 0 := xLu_of 539 469 467 488 485 486 86 487 (by decide +kernel)
theorem l_Wall_52_6 : xLu "HandOverHorse$Wall" 52 (xcn 6) ⟨"HandOverHorse$Stroke", "kind", "()I"⟩ m_Stroke_kind m_Forged_kind 0 := xLu_of 539 469 467 488 476 477 87 478 (by decide +kernel)
theorem l_Wall_52 {c : Nat} (h : c < 7) : xLu "HandOverHorse$Wall" 52 (xcn c) ⟨"HandOverHorse$Stroke", "kind", "()I"⟩ m_Stroke_kind (sel_kind c) 0 := by
  rcases (show c = 0 ∨ c = 1 ∨ c = 2 ∨ c = 3 ∨ c = 4 ∨ c = 5 ∨ c = 6 by omega) with rfl | rfl | rfl | rfl | rfl | rfl | rfl
  · exact l_Wall_52_0
  · exact l_Wall_52_1
  · exact l_Wall_52_2
  · exact l_Wall_52_3
  · exact l_Wall_52_4
  · exact l_Wall_52_5
  · exact l_Wall_52_6
theorem l_Wall_56 : xLv "HandOverHorse$Wall" 56 m_Wall_makeOfKind 2 := ⟨xLk_of 1250 76 634 (by decide +kernel), xw_at 632 (by decide +kernel), xw_at 633 (by decide +kernel)⟩
theorem l_Wall_60_0 : xLu "HandOverHorse$Wall" 60 (xcn 0) ⟨"HandOverHorse$Stroke", "copyFrom", "(LHandOverHorse$Stroke;)V"⟩ m_Stroke_copyFrom m_Stroke_copyFrom 1 := xLu_of 635 638 636 645 637 636 77 645 (by decide +kernel)
theorem l_Wall_60_1 : xLu "HandOverHorse$Wall" 60 (xcn 1) ⟨"HandOverHorse$Stroke", "copyFrom", "(LHandOverHorse$Stroke;)V"⟩ m_Stroke_copyFrom m_Stroke_copyFrom 1 := xLu_of 635 638 636 645 642 636 77 645 (by decide +kernel)
theorem l_Wall_60_2 : xLu "HandOverHorse$Wall" 60 (xcn 2) ⟨"HandOverHorse$Stroke", "copyFrom", "(LHandOverHorse$Stroke;)V"⟩ m_Stroke_copyFrom m_Stroke_copyFrom 1 := xLu_of 635 638 636 645 639 636 77 645 (by decide +kernel)
theorem l_Wall_60_3 : xLu "HandOverHorse$Wall" 60 (xcn 3) ⟨"HandOverHorse$Stroke", "copyFrom", "(LHandOverHorse$Stroke;)V"⟩ m_Stroke_copyFrom m_Stroke_copyFrom 1 := xLu_of 635 638 636 645 643 636 77 645 (by decide +kernel)
theorem l_Wall_60_4 : xLu "HandOverHorse$Wall" 60 (xcn 4) ⟨"HandOverHorse$Stroke", "copyFrom", "(LHandOverHorse$Stroke;)V"⟩ m_Stroke_copyFrom m_Stroke_copyFrom 1 := xLu_of 635 638 636 645 640 636 77 645 (by decide +kernel)
theorem l_Wall_60_5 : xLu "HandOverHorse$Wall" 60 (xcn 5) ⟨"HandOverHorse$Stroke", "copyFrom", "(LHandOverHorse$Stroke;)V"⟩ m_Stroke_copyFrom m_Stroke_copyFrom 1 := xLu_of 635 638 636 645 644 636 77 645 (by decide +kernel)
theorem l_Wall_60_6 : xLu "HandOverHorse$Wall" 60 (xcn 6) ⟨"HandOverHorse$Stroke", "copyFrom", "(LHandOverHorse$Stroke;)V"⟩ m_Stroke_copyFrom m_Stroke_copyFrom 1 := xLu_of 635 638 636 645 641 636 77 645 (by decide +kernel)
theorem l_Wall_60 {c : Nat} (h : c < 7) : xLu "HandOverHorse$Wall" 60 (xcn c) ⟨"HandOverHorse$Stroke", "copyFrom", "(LHandOverHorse$Stroke;)V"⟩ m_Stroke_copyFrom (sel_copyFrom c) 1 := by
  rcases (show c = 0 ∨ c = 1 ∨ c = 2 ∨ c = 3 ∨ c = 4 ∨ c = 5 ∨ c = 6 by omega) with rfl | rfl | rfl | rfl | rfl | rfl | rfl
  · exact l_Wall_60_0
  · exact l_Wall_60_1
  · exact l_Wall_60_2
  · exact l_Wall_60_3
  · exact l_Wall_60_4
  · exact l_Wall_60_5
  · exact l_Wall_60_6
theorem l_Wall_76 : xLv "HandOverHorse$Wall" 76 m_Text_copyFrom 1 := ⟨xLk_of 855 78 858 (by decide +kernel), xw_at 856 (by decide +kernel), xw_at 857 (by decide +kernel)⟩
theorem l_Wall_82 : xLs "HandOverHorse$Wall" 82 m_Math_min 2 := ⟨xLk_of 561 88 563 (by decide +kernel), xw_at 562 (by decide +kernel)⟩
theorem l_Wall_88 : xLs "HandOverHorse$Wall" 88 m_Math_max 2 := ⟨xLk_of 564 88 525 (by decide +kernel), xw_at 524 (by decide +kernel)⟩
theorem l_Wall_91 : xLs "HandOverHorse$Wall" 91 m_Math_abs 1 := ⟨xLk_of 988 88 990 (by decide +kernel), xw_at 989 (by decide +kernel)⟩
theorem l_Wall_95 : xLv "HandOverHorse$Wall" 95 m_Wall_hasStroke 1 := ⟨xLk_of 691 76 465 (by decide +kernel), xw_at 463 (by decide +kernel), xw_at 464 (by decide +kernel)⟩
theorem l_Wall_99 : Cond.classLink "HandOverHorse$Wall" 99 (xcn 1) ∈ xw ∧ Cond.instantiable (xcn 1) (xN 1) ∈ xw ∧ Cond.initialized (xcn 1) ∈ xw := ⟨xw_at 374 (by decide +kernel), xw_at 375 (by decide +kernel), xw_at 82 (by decide +kernel)⟩
theorem l_Wall_101 : xLi "HandOverHorse$Wall" 101 m_Red_init 0 := ⟨xLk_of 376 82 378 (by decide +kernel), xw_at 377 (by decide +kernel), rfl⟩
theorem l_Wall_102 : Cond.classLink "HandOverHorse$Wall" 102 (xcn 2) ∈ xw ∧ Cond.instantiable (xcn 2) (xN 2) ∈ xw ∧ Cond.initialized (xcn 2) ∈ xw := ⟨xw_at 388 (by decide +kernel), xw_at 389 (by decide +kernel), xw_at 83 (by decide +kernel)⟩
theorem l_Wall_104 : xLi "HandOverHorse$Wall" 104 m_Black_init 0 := ⟨xLk_of 390 83 392 (by decide +kernel), xw_at 391 (by decide +kernel), rfl⟩
theorem l_Wall_105 : Cond.classLink "HandOverHorse$Wall" 105 (xcn 3) ∈ xw ∧ Cond.instantiable (xcn 3) (xN 3) ∈ xw ∧ Cond.initialized (xcn 3) ∈ xw := ⟨xw_at 402 (by decide +kernel), xw_at 403 (by decide +kernel), xw_at 84 (by decide +kernel)⟩
theorem l_Wall_107 : xLi "HandOverHorse$Wall" 107 m_Scratch_init 0 := ⟨xLk_of 404 84 406 (by decide +kernel), xw_at 405 (by decide +kernel), rfl⟩
theorem l_Wall_108 : Cond.classLink "HandOverHorse$Wall" 108 (xcn 4) ∈ xw ∧ Cond.instantiable (xcn 4) (xN 4) ∈ xw ∧ Cond.initialized (xcn 4) ∈ xw := ⟨xw_at 416 (by decide +kernel), xw_at 417 (by decide +kernel), xw_at 85 (by decide +kernel)⟩
theorem l_Wall_110 : xLi "HandOverHorse$Wall" 110 m_Child_init 0 := ⟨xLk_of 418 85 420 (by decide +kernel), xw_at 419 (by decide +kernel), rfl⟩
theorem l_Wall_111 : Cond.classLink "HandOverHorse$Wall" 111 (xcn 5) ∈ xw ∧ Cond.instantiable (xcn 5) (xN 5) ∈ xw ∧ Cond.initialized (xcn 5) ∈ xw := ⟨xw_at 430 (by decide +kernel), xw_at 431 (by decide +kernel), xw_at 86 (by decide +kernel)⟩
theorem l_Wall_113 : xLi "HandOverHorse$Wall" 113 m_Soot_init 0 := ⟨xLk_of 432 86 434 (by decide +kernel), xw_at 433 (by decide +kernel), rfl⟩
theorem l_Wall_114 : Cond.classLink "HandOverHorse$Wall" 114 (xcn 6) ∈ xw ∧ Cond.instantiable (xcn 6) (xN 6) ∈ xw ∧ Cond.initialized (xcn 6) ∈ xw := ⟨xw_at 444 (by decide +kernel), xw_at 445 (by decide +kernel), xw_at 87 (by decide +kernel)⟩
theorem l_Wall_116 : xLi "HandOverHorse$Wall" 116 m_Forged_init 0 := ⟨xLk_of 446 87 448 (by decide +kernel), xw_at 447 (by decide +kernel), rfl⟩
theorem l_Wall_117 : xLs "HandOverHorse$Wall" 117 m_Wall_blankOfKind 1 := ⟨xLk_of 371 76 373 (by decide +kernel), xw_at 372 (by decide +kernel)⟩
theorem l_Wall_133_0 : xLu "HandOverHorse$Wall" 133 (xcn 0) ⟨"HandOverHorse$Stroke", "early", "()I"⟩ m_Stroke_early m_Stroke_early 0 := xLu_of 504 507 505 534 506 505 77 534 (by decide +kernel)
theorem l_Wall_133_1 : xLu "HandOverHorse$Wall" 133 (xcn 1) ⟨"HandOverHorse$Stroke", "early", "()I"⟩ m_Stroke_early m_Red_early 0 := xLu_of 504 507 505 534 526 513 82 514 (by decide +kernel)
theorem l_Wall_133_2 : xLu "HandOverHorse$Wall" 133 (xcn 2) ⟨"HandOverHorse$Stroke", "early", "()I"⟩ m_Stroke_early m_Stroke_early 0 := xLu_of 504 507 505 534 508 505 77 534 (by decide +kernel)
theorem l_Wall_133_3 : xLu "HandOverHorse$Wall" 133 (xcn 3) ⟨"HandOverHorse$Stroke", "early", "()I"⟩ m_Stroke_early m_Scratch_early 0 := xLu_of 504 507 505 534 527 520 84 521 (by decide +kernel)
theorem l_Wall_133_4 : xLu "HandOverHorse$Wall" 133 (xcn 4) ⟨"HandOverHorse$Stroke", "early", "()I"⟩ m_Stroke_early m_Child_early 0 := xLu_of 504 507 505 534 509 510 85 511 (by decide +kernel)
theorem l_Wall_133_5 : xLu "HandOverHorse$Wall" 133 (xcn 5) ⟨"HandOverHorse$Stroke", "early", "()I"⟩ m_Stroke_early m_Soot_early 0 := xLu_of 504 507 505 534 528 529 86 530 (by decide +kernel)
theorem l_Wall_133_6 : xLu "HandOverHorse$Wall" 133 (xcn 6) ⟨"HandOverHorse$Stroke", "early", "()I"⟩ m_Stroke_early m_Forged_early 0 := xLu_of 504 507 505 534 516 517 87 518 (by decide +kernel)
theorem l_Wall_133 {c : Nat} (h : c < 7) : xLu "HandOverHorse$Wall" 133 (xcn c) ⟨"HandOverHorse$Stroke", "early", "()I"⟩ m_Stroke_early (sel_early c) 0 := by
  rcases (show c = 0 ∨ c = 1 ∨ c = 2 ∨ c = 3 ∨ c = 4 ∨ c = 5 ∨ c = 6 by omega) with rfl | rfl | rfl | rfl | rfl | rfl | rfl
  · exact l_Wall_133_0
  · exact l_Wall_133_1
  · exact l_Wall_133_2
  · exact l_Wall_133_3
  · exact l_Wall_133_4
  · exact l_Wall_133_5
  · exact l_Wall_133_6
theorem l_Wall_136 : xLv "HandOverHorse$Wall" 136 m_Wall_datesOf 1 := ⟨xLk_of 535 76 538 (by decide +kernel), xw_at 537 (by decide +kernel), xw_at 1 (by decide +kernel)⟩
theorem l_Wall_139 : xLs "HandOverHorse$Wall" 139 m_Wall_held 3 := ⟨xLk_of 558 76 560 (by decide +kernel), xw_at 559 (by decide +kernel)⟩
theorem l_Wall_143_0 : xLu "HandOverHorse$Wall" 143 (xcn 0) ⟨"HandOverHorse$Stroke", "late", "()I"⟩ m_Stroke_late m_Stroke_late 0 := xLu_of 569 572 570 592 571 570 77 592 (by decide +kernel)
theorem l_Wall_143_1 : xLu "HandOverHorse$Wall" 143 (xcn 1) ⟨"HandOverHorse$Stroke", "late", "()I"⟩ m_Stroke_late m_Stroke_late 0 := xLu_of 569 572 570 592 586 570 77 592 (by decide +kernel)
theorem l_Wall_143_2 : xLu "HandOverHorse$Wall" 143 (xcn 2) ⟨"HandOverHorse$Stroke", "late", "()I"⟩ m_Stroke_late m_Black_late 0 := xLu_of 569 572 570 592 573 574 83 575 (by decide +kernel)
theorem l_Wall_143_3 : xLu "HandOverHorse$Wall" 143 (xcn 3) ⟨"HandOverHorse$Stroke", "late", "()I"⟩ m_Stroke_late m_Stroke_late 0 := xLu_of 569 572 570 592 587 570 77 592 (by decide +kernel)
theorem l_Wall_143_4 : xLu "HandOverHorse$Wall" 143 (xcn 4) ⟨"HandOverHorse$Stroke", "late", "()I"⟩ m_Stroke_late m_Child_late 0 := xLu_of 569 572 570 592 577 578 85 579 (by decide +kernel)
theorem l_Wall_143_5 : xLu "HandOverHorse$Wall" 143 (xcn 5) ⟨"HandOverHorse$Stroke", "late", "()I"⟩ m_Stroke_late m_Soot_late 0 := xLu_of 569 572 570 592 588 589 86 590 (by decide +kernel)
theorem l_Wall_143_6 : xLu "HandOverHorse$Wall" 143 (xcn 6) ⟨"HandOverHorse$Stroke", "late", "()I"⟩ m_Stroke_late m_Forged_late 0 := xLu_of 569 572 570 592 583 584 87 585 (by decide +kernel)
theorem l_Wall_143 {c : Nat} (h : c < 7) : xLu "HandOverHorse$Wall" 143 (xcn c) ⟨"HandOverHorse$Stroke", "late", "()I"⟩ m_Stroke_late (sel_late c) 0 := by
  rcases (show c = 0 ∨ c = 1 ∨ c = 2 ∨ c = 3 ∨ c = 4 ∨ c = 5 ∨ c = 6 by omega) with rfl | rfl | rfl | rfl | rfl | rfl | rfl
  · exact l_Wall_143_0
  · exact l_Wall_143_1
  · exact l_Wall_143_2
  · exact l_Wall_143_3
  · exact l_Wall_143_4
  · exact l_Wall_143_5
  · exact l_Wall_143_6
theorem l_Wall_149 : xLv "HandOverHorse$Wall" 149 m_Wall_givenBy 5 := ⟨xLk_of 540 76 543 (by decide +kernel), xw_at 541 (by decide +kernel), xw_at 542 (by decide +kernel)⟩
theorem l_Wall_153_0 : xLu "HandOverHorse$Wall" 153 (xcn 0) ⟨"HandOverHorse$Stroke", "stuff", "()I"⟩ m_Stroke_stuff m_Stroke_stuff 0 := xLu_of 987 596 594 609 595 594 77 609 (by decide +kernel)
theorem l_Wall_153_1 : xLu "HandOverHorse$Wall" 153 (xcn 1) ⟨"HandOverHorse$Stroke", "stuff", "()I"⟩ m_Stroke_stuff m_Red_stuff 0 := xLu_of 987 596 594 609 606 601 82 602 (by decide +kernel)
theorem l_Wall_153_2 : xLu "HandOverHorse$Wall" 153 (xcn 2) ⟨"HandOverHorse$Stroke", "stuff", "()I"⟩ m_Stroke_stuff m_Black_stuff 0 := xLu_of 987 596 594 609 597 598 83 599 (by decide +kernel)
theorem l_Wall_153_3 : xLu "HandOverHorse$Wall" 153 (xcn 3) ⟨"HandOverHorse$Stroke", "stuff", "()I"⟩ m_Stroke_stuff m_Scratch_stuff 0 := xLu_of 987 596 594 609 607 604 84 605 (by decide +kernel)
theorem l_Wall_153_4 : xLu "HandOverHorse$Wall" 153 (xcn 4) ⟨"HandOverHorse$Stroke", "stuff", "()I"⟩ m_Stroke_stuff m_Red_stuff 0 := xLu_of 987 596 594 609 600 601 82 602 (by decide +kernel)
theorem l_Wall_153_5 : xLu "HandOverHorse$Wall" 153 (xcn 5) ⟨"HandOverHorse$Stroke", "stuff", "()I"⟩ m_Stroke_stuff m_Black_stuff 0 := xLu_of 987 596 594 609 608 598 83 599 (by decide +kernel)
theorem l_Wall_153_6 : xLu "HandOverHorse$Wall" 153 (xcn 6) ⟨"HandOverHorse$Stroke", "stuff", "()I"⟩ m_Stroke_stuff m_Scratch_stuff 0 := xLu_of 987 596 594 609 603 604 84 605 (by decide +kernel)
theorem l_Wall_153 {c : Nat} (h : c < 7) : xLu "HandOverHorse$Wall" 153 (xcn c) ⟨"HandOverHorse$Stroke", "stuff", "()I"⟩ m_Stroke_stuff (sel_stuff c) 0 := by
  rcases (show c = 0 ∨ c = 1 ∨ c = 2 ∨ c = 3 ∨ c = 4 ∨ c = 5 ∨ c = 6 by omega) with rfl | rfl | rfl | rfl | rfl | rfl | rfl
  · exact l_Wall_153_0
  · exact l_Wall_153_1
  · exact l_Wall_153_2
  · exact l_Wall_153_3
  · exact l_Wall_153_4
  · exact l_Wall_153_5
  · exact l_Wall_153_6
theorem l_Wall_156 : xLs "HandOverHorse$Wall" 156 m_Wall_far 2 := ⟨xLk_of 991 76 993 (by decide +kernel), xw_at 992 (by decide +kernel)⟩
theorem l_Wall_159_0 : xLu "HandOverHorse$Wall" 159 (xcn 0) ⟨"HandOverHorse$Stroke", "gap", "()I"⟩ m_Stroke_gap m_Stroke_gap 0 := xLu_of 994 997 995 1019 996 995 77 1019 (by decide +kernel)
theorem l_Wall_159_1 : xLu "HandOverHorse$Wall" 159 (xcn 1) ⟨"HandOverHorse$Stroke", "gap", "()I"⟩ m_Stroke_gap m_Red_gap 0 := xLu_of 994 997 995 1019 1008 1009 82 1010 (by decide +kernel)
theorem l_Wall_159_2 : xLu "HandOverHorse$Wall" 159 (xcn 2) ⟨"HandOverHorse$Stroke", "gap", "()I"⟩ m_Stroke_gap m_Stroke_gap 0 := xLu_of 994 997 995 1019 998 995 77 1019 (by decide +kernel)
theorem l_Wall_159_3 : xLu "HandOverHorse$Wall" 159 (xcn 3) ⟨"HandOverHorse$Stroke", "gap", "()I"⟩ m_Stroke_gap m_Scratch_gap 0 := xLu_of 994 997 995 1019 1012 1006 84 1007 (by decide +kernel)
theorem l_Wall_159_4 : xLu "HandOverHorse$Wall" 159 (xcn 4) ⟨"HandOverHorse$Stroke", "gap", "()I"⟩ m_Stroke_gap m_Child_gap 0 := xLu_of 994 997 995 1019 999 1000 85 1001 (by decide +kernel)
theorem l_Wall_159_5 : xLu "HandOverHorse$Wall" 159 (xcn 5) ⟨"HandOverHorse$Stroke", "gap", "()I"⟩ m_Stroke_gap m_Soot_gap 0 := xLu_of 994 997 995 1019 1013 1014 86 1015 (by decide +kernel)
theorem l_Wall_159_6 : xLu "HandOverHorse$Wall" 159 (xcn 6) ⟨"HandOverHorse$Stroke", "gap", "()I"⟩ m_Stroke_gap m_Forged_gap 0 := xLu_of 994 997 995 1019 1002 1003 87 1004 (by decide +kernel)
theorem l_Wall_159 {c : Nat} (h : c < 7) : xLu "HandOverHorse$Wall" 159 (xcn c) ⟨"HandOverHorse$Stroke", "gap", "()I"⟩ m_Stroke_gap (sel_gap c) 0 := by
  rcases (show c = 0 ∨ c = 1 ∨ c = 2 ∨ c = 3 ∨ c = 4 ∨ c = 5 ∨ c = 6 by omega) with rfl | rfl | rfl | rfl | rfl | rfl | rfl
  · exact l_Wall_159_0
  · exact l_Wall_159_1
  · exact l_Wall_159_2
  · exact l_Wall_159_3
  · exact l_Wall_159_4
  · exact l_Wall_159_5
  · exact l_Wall_159_6
theorem l_Wall_162 : xLv "HandOverHorse$Wall" 162 m_Wall_areTwo 2 := ⟨xLk_of 687 76 690 (by decide +kernel), xw_at 688 (by decide +kernel), xw_at 689 (by decide +kernel)⟩
theorem l_Wall_173 : xLv "HandOverHorse$Wall" 173 m_Text_read 3 := ⟨xLk_of 735 78 738 (by decide +kernel), xw_at 736 (by decide +kernel), xw_at 737 (by decide +kernel)⟩
theorem l_Wall_177 : xLv "HandOverHorse$Wall" 177 m_Text_isEmpty 0 := ⟨xLk_of 544 78 547 (by decide +kernel), xw_at 545 (by decide +kernel), xw_at 546 (by decide +kernel)⟩
theorem l_Wall_181 : xLv "HandOverHorse$Wall" 181 m_Text_workOut 4 := ⟨xLk_of 548 78 551 (by decide +kernel), xw_at 549 (by decide +kernel), xw_at 550 (by decide +kernel)⟩
theorem l_Wall_185 : xLv "HandOverHorse$Wall" 185 m_Wall_allBelowAre 2 := ⟨xLk_of 1268 76 1271 (by decide +kernel), xw_at 1270 (by decide +kernel), xw_at 22 (by decide +kernel)⟩
theorem l_Sets_3 : Cond.methodLink "HandOverHorse$Sets" 3 Lib.objectInit ∈ xw ∧ Cond.instanceMethod Lib.objectInit ∈ xw ∧ Cond.code Lib.objectInit ⟨#[0xb1]⟩ 1 none ∈ xw := ⟨xw_at 259 (by decide +kernel), xw_at 102 (by decide +kernel), xw_at 103 (by decide +kernel)⟩
theorem l_Sets_52 : xLs "HandOverHorse$Sets" 52 m_Sets_has 2 := ⟨xLk_of 883 79 885 (by decide +kernel), xw_at 884 (by decide +kernel)⟩
theorem l_Sets_56 : xLv "HandOverHorse$Sets" 56 m_Sets_findBelow 1 := ⟨xLk_of 872 79 875 (by decide +kernel), xw_at 874 (by decide +kernel), xw_at 9 (by decide +kernel)⟩
theorem l_Sets_60 : xLs "HandOverHorse$Sets" 60 m_Sets_allOf 1 := ⟨xLk_of 876 79 878 (by decide +kernel), xw_at 877 (by decide +kernel)⟩
theorem l_Sets_64 : xLv "HandOverHorse$Sets" 64 m_Sets_readyAfter 2 := ⟨xLk_of 879 79 882 (by decide +kernel), xw_at 881 (by decide +kernel), xw_at 10 (by decide +kernel)⟩
theorem l_Sets_68 : xLv "HandOverHorse$Sets" 68 m_Wall_weightOf 1 := ⟨xLk_of 907 76 707 (by decide +kernel), xw_at 705 (by decide +kernel), xw_at 706 (by decide +kernel)⟩
theorem l_Sets_72 : xLv "HandOverHorse$Sets" 72 m_Sets_findLosses 1 := ⟨xLk_of 903 79 906 (by decide +kernel), xw_at 905 (by decide +kernel), xw_at 11 (by decide +kernel)⟩
theorem l_Sets_76 : xLv "HandOverHorse$Sets" 76 m_Sets_lossOf 2 := ⟨xLk_of 909 79 912 (by decide +kernel), xw_at 911 (by decide +kernel), xw_at 12 (by decide +kernel)⟩
theorem l_Sets_79 : xLs "HandOverHorse$Sets" 79 m_Math_min 2 := ⟨xLk_of 913 88 563 (by decide +kernel), xw_at 562 (by decide +kernel)⟩
theorem l_Sets_84 : xLv "HandOverHorse$Sets" 84 m_Sets_firstOfBest 2 := ⟨xLk_of 914 79 917 (by decide +kernel), xw_at 916 (by decide +kernel), xw_at 13 (by decide +kernel)⟩
theorem l_Sets_87 : xLv "HandOverHorse$Sets" 87 m_Wall_twoJoin 2 := ⟨xLk_of 1032 76 986 (by decide +kernel), xw_at 984 (by decide +kernel), xw_at 985 (by decide +kernel)⟩
theorem l_Sets_90 : xLs "HandOverHorse$Sets" 90 m_Sets_lowestOf 1 := ⟨xLk_of 1033 79 1035 (by decide +kernel), xw_at 1034 (by decide +kernel)⟩
theorem l_Sets_93 : xLv "HandOverHorse$Sets" 93 m_Sets_findBeasts 1 := ⟨xLk_of 1028 79 1031 (by decide +kernel), xw_at 1030 (by decide +kernel), xw_at 18 (by decide +kernel)⟩
theorem l_Sets_96 : xLs "HandOverHorse$Sets" 96 m_Int_bitCount 1 := ⟨xLk_of 1036 94 1038 (by decide +kernel), xw_at 1037 (by decide +kernel)⟩
theorem l_Sets_101 : xLv "HandOverHorse$Sets" 101 m_Sets_findAlike 1 := ⟨xLk_of 1058 79 1061 (by decide +kernel), xw_at 1060 (by decide +kernel), xw_at 19 (by decide +kernel)⟩
theorem l_Sets_108_0 : xLu "HandOverHorse$Sets" 108 (xcn 0) ⟨"HandOverHorse$Stroke", "stuff", "()I"⟩ m_Stroke_stuff m_Stroke_stuff 0 := xLu_of 1062 596 594 609 595 594 77 609 (by decide +kernel)
theorem l_Sets_108_1 : xLu "HandOverHorse$Sets" 108 (xcn 1) ⟨"HandOverHorse$Stroke", "stuff", "()I"⟩ m_Stroke_stuff m_Red_stuff 0 := xLu_of 1062 596 594 609 606 601 82 602 (by decide +kernel)
theorem l_Sets_108_2 : xLu "HandOverHorse$Sets" 108 (xcn 2) ⟨"HandOverHorse$Stroke", "stuff", "()I"⟩ m_Stroke_stuff m_Black_stuff 0 := xLu_of 1062 596 594 609 597 598 83 599 (by decide +kernel)
theorem l_Sets_108_3 : xLu "HandOverHorse$Sets" 108 (xcn 3) ⟨"HandOverHorse$Stroke", "stuff", "()I"⟩ m_Stroke_stuff m_Scratch_stuff 0 := xLu_of 1062 596 594 609 607 604 84 605 (by decide +kernel)
theorem l_Sets_108_4 : xLu "HandOverHorse$Sets" 108 (xcn 4) ⟨"HandOverHorse$Stroke", "stuff", "()I"⟩ m_Stroke_stuff m_Red_stuff 0 := xLu_of 1062 596 594 609 600 601 82 602 (by decide +kernel)
theorem l_Sets_108_5 : xLu "HandOverHorse$Sets" 108 (xcn 5) ⟨"HandOverHorse$Stroke", "stuff", "()I"⟩ m_Stroke_stuff m_Black_stuff 0 := xLu_of 1062 596 594 609 608 598 83 599 (by decide +kernel)
theorem l_Sets_108_6 : xLu "HandOverHorse$Sets" 108 (xcn 6) ⟨"HandOverHorse$Stroke", "stuff", "()I"⟩ m_Stroke_stuff m_Scratch_stuff 0 := xLu_of 1062 596 594 609 603 604 84 605 (by decide +kernel)
theorem l_Sets_108 {c : Nat} (h : c < 7) : xLu "HandOverHorse$Sets" 108 (xcn c) ⟨"HandOverHorse$Stroke", "stuff", "()I"⟩ m_Stroke_stuff (sel_stuff c) 0 := by
  rcases (show c = 0 ∨ c = 1 ∨ c = 2 ∨ c = 3 ∨ c = 4 ∨ c = 5 ∨ c = 6 by omega) with rfl | rfl | rfl | rfl | rfl | rfl | rfl
  · exact l_Sets_108_0
  · exact l_Sets_108_1
  · exact l_Sets_108_2
  · exact l_Sets_108_3
  · exact l_Sets_108_4
  · exact l_Sets_108_5
  · exact l_Sets_108_6
theorem l_Sets_114 : xLv "HandOverHorse$Sets" 114 m_Sets_areAlike 1 := ⟨xLk_of 1071 79 1074 (by decide +kernel), xw_at 1073 (by decide +kernel), xw_at 20 (by decide +kernel)⟩
theorem l_Spans_3 : Cond.methodLink "HandOverHorse$Spans" 3 Lib.objectInit ∈ xw ∧ Cond.instanceMethod Lib.objectInit ∈ xw ∧ Cond.code Lib.objectInit ⟨#[0xb1]⟩ 1 none ∈ xw := ⟨xw_at 292 (by decide +kernel), xw_at 102 (by decide +kernel), xw_at 103 (by decide +kernel)⟩
theorem l_Spans_36 : xLv "HandOverHorse$Spans" 36 m_Wall_earlyOf 1 := ⟨xLk_of 938 76 503 (by decide +kernel), xw_at 501 (by decide +kernel), xw_at 502 (by decide +kernel)⟩
theorem l_Spans_40 : xLv "HandOverHorse$Spans" 40 m_Wall_lateOf 1 := ⟨xLk_of 939 76 568 (by decide +kernel), xw_at 566 (by decide +kernel), xw_at 567 (by decide +kernel)⟩
theorem l_Spans_43 : xLv "HandOverHorse$Spans" 43 m_Spans_pushUp 1 := ⟨xLk_of 944 80 947 (by decide +kernel), xw_at 946 (by decide +kernel), xw_at 14 (by decide +kernel)⟩
theorem l_Spans_47 : xLv "HandOverHorse$Spans" 47 m_Spans_pushDown 1 := ⟨xLk_of 948 80 951 (by decide +kernel), xw_at 950 (by decide +kernel), xw_at 15 (by decide +kernel)⟩
theorem l_Spans_60 : xLv "HandOverHorse$Spans" 60 m_Spans_settle 1 := ⟨xLk_of 960 80 943 (by decide +kernel), xw_at 941 (by decide +kernel), xw_at 942 (by decide +kernel)⟩
theorem l_Spans_63 : xLv "HandOverHorse$Spans" 63 m_Spans_widthOf 1 := ⟨xLk_of 961 80 964 (by decide +kernel), xw_at 963 (by decide +kernel), xw_at 16 (by decide +kernel)⟩
theorem l_Spans_69 : xLv "HandOverHorse$Spans" 69 m_Spans_worstOf 2 := ⟨xLk_of 973 80 976 (by decide +kernel), xw_at 975 (by decide +kernel), xw_at 17 (by decide +kernel)⟩
theorem l_Spans_76 : xLv "HandOverHorse$Spans" 76 m_Spans_widthByTest 3 := ⟨xLk_of 977 80 959 (by decide +kernel), xw_at 957 (by decide +kernel), xw_at 958 (by decide +kernel)⟩
theorem l_Spans_80 : xLs "HandOverHorse$Spans" 80 m_Math_max 2 := ⟨xLk_of 978 88 525 (by decide +kernel), xw_at 524 (by decide +kernel)⟩
theorem l_H_1 : Cond.methodLink "HandOverHorse" 1 Lib.objectInit ∈ xw ∧ Cond.instanceMethod Lib.objectInit ∈ xw ∧ Cond.code Lib.objectInit ⟨#[0xb1]⟩ 1 none ∈ xw := ⟨xw_at 101 (by decide +kernel), xw_at 102 (by decide +kernel), xw_at 103 (by decide +kernel)⟩
theorem l_H_7 : Cond.classLink "HandOverHorse" 7 (xcn 8) ∈ xw ∧ Cond.instantiable (xcn 8) (xN 8) ∈ xw ∧ Cond.initialized (xcn 8) ∈ xw := ⟨xw_at 104 (by decide +kernel), xw_at 105 (by decide +kernel), xw_at 76 (by decide +kernel)⟩
theorem l_H_9 : xLi "HandOverHorse" 9 m_Wall_init 0 := ⟨xLk_of 106 76 108 (by decide +kernel), xw_at 107 (by decide +kernel), rfl⟩
theorem l_H_19 : Cond.classLink "HandOverHorse" 19 (xcn 9) ∈ xw ∧ Cond.instantiable (xcn 9) (xN 9) ∈ xw ∧ Cond.initialized (xcn 9) ∈ xw := ⟨xw_at 254 (by decide +kernel), xw_at 255 (by decide +kernel), xw_at 79 (by decide +kernel)⟩
theorem l_H_21 : xLi "HandOverHorse" 21 m_Sets_init 0 := ⟨xLk_of 256 79 258 (by decide +kernel), xw_at 257 (by decide +kernel), rfl⟩
theorem l_H_26 : Cond.classLink "HandOverHorse" 26 (xcn 10) ∈ xw ∧ Cond.instantiable (xcn 10) (xN 10) ∈ xw ∧ Cond.initialized (xcn 10) ∈ xw := ⟨xw_at 287 (by decide +kernel), xw_at 288 (by decide +kernel), xw_at 80 (by decide +kernel)⟩
theorem l_H_28 : xLi "HandOverHorse" 28 m_Spans_init 0 := ⟨xLk_of 289 80 291 (by decide +kernel), xw_at 290 (by decide +kernel), rfl⟩
theorem l_H_56 : xLs "HandOverHorse" 56 m_Wall_within 2 := ⟨xLk_of 359 76 361 (by decide +kernel), xw_at 360 (by decide +kernel)⟩
theorem l_H_60 : xLv "HandOverHorse" 60 m_H_error 1 := ⟨xLk_of 362 75 365 (by decide +kernel), xw_at 364 (by decide +kernel), xw_at 0 (by decide +kernel)⟩
theorem l_H_67 : xLv "HandOverHorse" 67 m_Wall_addStroke 3 := ⟨xLk_of 367 76 370 (by decide +kernel), xw_at 368 (by decide +kernel), xw_at 369 (by decide +kernel)⟩
theorem l_H_71 : xLv "HandOverHorse" 71 m_Wall_hasStroke 1 := ⟨xLk_of 462 76 465 (by decide +kernel), xw_at 463 (by decide +kernel), xw_at 464 (by decide +kernel)⟩
theorem l_H_79_0 : xLu "HandOverHorse" 79 (xcn 0) ⟨"HandOverHorse$Stroke", "kind", "()I"⟩ m_Stroke_kind m_Stroke_kind 0 := xLu_of 466 469 467 488 468 467 77 488 (by decide +kernel)
theorem l_H_79_1 : xLu "HandOverHorse" 79 (xcn 1) ⟨"HandOverHorse$Stroke", "kind", "()I"⟩ m_Stroke_kind m_Red_kind 0 := xLu_of 466 469 467 488 479 480 82 481 (by decide +kernel)
theorem l_H_79_2 : xLu "HandOverHorse" 79 (xcn 2) ⟨"HandOverHorse$Stroke", "kind", "()I"⟩ m_Stroke_kind m_Black_kind 0 := xLu_of 466 469 467 488 470 471 83 472 (by decide +kernel)
theorem l_H_79_3 : xLu "HandOverHorse" 79 (xcn 3) ⟨"HandOverHorse$Stroke", "kind", "()I"⟩ m_Stroke_kind m_Scratch_kind 0 := xLu_of 466 469 467 488 482 483 84 484 (by decide +kernel)
theorem l_H_79_4 : xLu "HandOverHorse" 79 (xcn 4) ⟨"HandOverHorse$Stroke", "kind", "()I"⟩ m_Stroke_kind m_Child_kind 0 := xLu_of 466 469 467 488 473 474 85 475 (by decide +kernel)
theorem l_H_79_5 : xLu "HandOverHorse" 79 (xcn 5) ⟨"HandOverHorse$Stroke", "kind", "()I"⟩ m_Stroke_kind m_Soot_kind 0 := xLu_of 466 469 467 488 485 486 86 487 (by decide +kernel)
theorem l_H_79_6 : xLu "HandOverHorse" 79 (xcn 6) ⟨"HandOverHorse$Stroke", "kind", "()I"⟩ m_Stroke_kind m_Forged_kind 0 := xLu_of 466 469 467 488 476 477 87 478 (by decide +kernel)
theorem l_H_79 {c : Nat} (h : c < 7) : xLu "HandOverHorse" 79 (xcn c) ⟨"HandOverHorse$Stroke", "kind", "()I"⟩ m_Stroke_kind (sel_kind c) 0 := by
  rcases (show c = 0 ∨ c = 1 ∨ c = 2 ∨ c = 3 ∨ c = 4 ∨ c = 5 ∨ c = 6 by omega) with rfl | rfl | rfl | rfl | rfl | rfl | rfl
  · exact l_H_79_0
  · exact l_H_79_1
  · exact l_H_79_2
  · exact l_H_79_3
  · exact l_H_79_4
  · exact l_H_79_5
  · exact l_H_79_6
theorem l_H_85_0 : xLu "HandOverHorse" 85 (xcn 0) ⟨"HandOverHorse$Stroke", "part", "(I)I"⟩ m_Stroke_part m_Stroke_part 1 := xLu_of 489 492 490 499 491 490 77 499 (by decide +kernel)
theorem l_H_85_1 : xLu "HandOverHorse" 85 (xcn 1) ⟨"HandOverHorse$Stroke", "part", "(I)I"⟩ m_Stroke_part m_Stroke_part 1 := xLu_of 489 492 490 499 496 490 77 499 (by decide +kernel)
theorem l_H_85_2 : xLu "HandOverHorse" 85 (xcn 2) ⟨"HandOverHorse$Stroke", "part", "(I)I"⟩ m_Stroke_part m_Stroke_part 1 := xLu_of 489 492 490 499 493 490 77 499 (by decide +kernel)
theorem l_H_85_3 : xLu "HandOverHorse" 85 (xcn 3) ⟨"HandOverHorse$Stroke", "part", "(I)I"⟩ m_Stroke_part m_Stroke_part 1 := xLu_of 489 492 490 499 497 490 77 499 (by decide +kernel)
theorem l_H_85_4 : xLu "HandOverHorse" 85 (xcn 4) ⟨"HandOverHorse$Stroke", "part", "(I)I"⟩ m_Stroke_part m_Stroke_part 1 := xLu_of 489 492 490 499 494 490 77 499 (by decide +kernel)
theorem l_H_85_5 : xLu "HandOverHorse" 85 (xcn 5) ⟨"HandOverHorse$Stroke", "part", "(I)I"⟩ m_Stroke_part m_Stroke_part 1 := xLu_of 489 492 490 499 498 490 77 499 (by decide +kernel)
theorem l_H_85_6 : xLu "HandOverHorse" 85 (xcn 6) ⟨"HandOverHorse$Stroke", "part", "(I)I"⟩ m_Stroke_part m_Stroke_part 1 := xLu_of 489 492 490 499 495 490 77 499 (by decide +kernel)
theorem l_H_85 {c : Nat} (h : c < 7) : xLu "HandOverHorse" 85 (xcn c) ⟨"HandOverHorse$Stroke", "part", "(I)I"⟩ m_Stroke_part (sel_part c) 1 := by
  rcases (show c = 0 ∨ c = 1 ∨ c = 2 ∨ c = 3 ∨ c = 4 ∨ c = 5 ∨ c = 6 by omega) with rfl | rfl | rfl | rfl | rfl | rfl | rfl
  · exact l_H_85_0
  · exact l_H_85_1
  · exact l_H_85_2
  · exact l_H_85_3
  · exact l_H_85_4
  · exact l_H_85_5
  · exact l_H_85_6
theorem l_H_88 : xLv "HandOverHorse" 88 m_Wall_earlyOf 1 := ⟨xLk_of 500 76 503 (by decide +kernel), xw_at 501 (by decide +kernel), xw_at 502 (by decide +kernel)⟩
theorem l_H_91 : xLv "HandOverHorse" 91 m_Wall_lateOf 1 := ⟨xLk_of 565 76 568 (by decide +kernel), xw_at 566 (by decide +kernel), xw_at 567 (by decide +kernel)⟩
theorem l_H_94_0 : xLu "HandOverHorse" 94 (xcn 0) ⟨"HandOverHorse$Stroke", "stuff", "()I"⟩ m_Stroke_stuff m_Stroke_stuff 0 := xLu_of 593 596 594 609 595 594 77 609 (by decide +kernel)
theorem l_H_94_1 : xLu "HandOverHorse" 94 (xcn 1) ⟨"HandOverHorse$Stroke", "stuff", "()I"⟩ m_Stroke_stuff m_Red_stuff 0 := xLu_of 593 596 594 609 606 601 82 602 (by decide +kernel)
theorem l_H_94_2 : xLu "HandOverHorse" 94 (xcn 2) ⟨"HandOverHorse$Stroke", "stuff", "()I"⟩ m_Stroke_stuff m_Black_stuff 0 := xLu_of 593 596 594 609 597 598 83 599 (by decide +kernel)
theorem l_H_94_3 : xLu "HandOverHorse" 94 (xcn 3) ⟨"HandOverHorse$Stroke", "stuff", "()I"⟩ m_Stroke_stuff m_Scratch_stuff 0 := xLu_of 593 596 594 609 607 604 84 605 (by decide +kernel)
theorem l_H_94_4 : xLu "HandOverHorse" 94 (xcn 4) ⟨"HandOverHorse$Stroke", "stuff", "()I"⟩ m_Stroke_stuff m_Red_stuff 0 := xLu_of 593 596 594 609 600 601 82 602 (by decide +kernel)
theorem l_H_94_5 : xLu "HandOverHorse" 94 (xcn 5) ⟨"HandOverHorse$Stroke", "stuff", "()I"⟩ m_Stroke_stuff m_Black_stuff 0 := xLu_of 593 596 594 609 608 598 83 599 (by decide +kernel)
theorem l_H_94_6 : xLu "HandOverHorse" 94 (xcn 6) ⟨"HandOverHorse$Stroke", "stuff", "()I"⟩ m_Stroke_stuff m_Scratch_stuff 0 := xLu_of 593 596 594 609 603 604 84 605 (by decide +kernel)
theorem l_H_94 {c : Nat} (h : c < 7) : xLu "HandOverHorse" 94 (xcn c) ⟨"HandOverHorse$Stroke", "stuff", "()I"⟩ m_Stroke_stuff (sel_stuff c) 0 := by
  rcases (show c = 0 ∨ c = 1 ∨ c = 2 ∨ c = 3 ∨ c = 4 ∨ c = 5 ∨ c = 6 by omega) with rfl | rfl | rfl | rfl | rfl | rfl | rfl
  · exact l_H_94_0
  · exact l_H_94_1
  · exact l_H_94_2
  · exact l_H_94_3
  · exact l_H_94_4
  · exact l_H_94_5
  · exact l_H_94_6
theorem l_H_100_0 : xLu "HandOverHorse" 100 (xcn 0) ⟨"HandOverHorse$Stroke", "setPart", "(II)V"⟩ m_Stroke_setPart m_Stroke_setPart 2 := xLu_of 616 619 617 626 618 617 77 626 (by decide +kernel)
theorem l_H_100_1 : xLu "HandOverHorse" 100 (xcn 1) ⟨"HandOverHorse$Stroke", "setPart", "(II)V"⟩ m_Stroke_setPart m_Stroke_setPart 2 := xLu_of 616 619 617 626 623 617 77 626 (by decide +kernel)
theorem l_H_100_2 : xLu "HandOverHorse" 100 (xcn 2) ⟨"HandOverHorse$Stroke", "setPart", "(II)V"⟩ m_Stroke_setPart m_Stroke_setPart 2 := xLu_of 616 619 617 626 620 617 77 626 (by decide +kernel)
theorem l_H_100_3 : xLu "HandOverHorse" 100 (xcn 3) ⟨"HandOverHorse$Stroke", "setPart", "(II)V"⟩ m_Stroke_setPart m_Stroke_setPart 2 := xLu_of 616 619 617 626 624 617 77 626 (by decide +kernel)
theorem l_H_100_4 : xLu "HandOverHorse" 100 (xcn 4) ⟨"HandOverHorse$Stroke", "setPart", "(II)V"⟩ m_Stroke_setPart m_Stroke_setPart 2 := xLu_of 616 619 617 626 621 617 77 626 (by decide +kernel)
theorem l_H_100_5 : xLu "HandOverHorse" 100 (xcn 5) ⟨"HandOverHorse$Stroke", "setPart", "(II)V"⟩ m_Stroke_setPart m_Stroke_setPart 2 := xLu_of 616 619 617 626 625 617 77 626 (by decide +kernel)
theorem l_H_100_6 : xLu "HandOverHorse" 100 (xcn 6) ⟨"HandOverHorse$Stroke", "setPart", "(II)V"⟩ m_Stroke_setPart m_Stroke_setPart 2 := xLu_of 616 619 617 626 622 617 77 626 (by decide +kernel)
theorem l_H_100 {c : Nat} (h : c < 7) : xLu "HandOverHorse" 100 (xcn c) ⟨"HandOverHorse$Stroke", "setPart", "(II)V"⟩ m_Stroke_setPart (sel_setPart c) 2 := by
  rcases (show c = 0 ∨ c = 1 ∨ c = 2 ∨ c = 3 ∨ c = 4 ∨ c = 5 ∨ c = 6 by omega) with rfl | rfl | rfl | rfl | rfl | rfl | rfl
  · exact l_H_100_0
  · exact l_H_100_1
  · exact l_H_100_2
  · exact l_H_100_3
  · exact l_H_100_4
  · exact l_H_100_5
  · exact l_H_100_6
theorem l_H_104 : xLv "HandOverHorse" 104 m_Wall_makeOfKind 2 := ⟨xLk_of 631 76 634 (by decide +kernel), xw_at 632 (by decide +kernel), xw_at 633 (by decide +kernel)⟩
theorem l_H_110_0 : xLu "HandOverHorse" 110 (xcn 0) ⟨"HandOverHorse$Stroke", "isOf", "(I)Z"⟩ m_Stroke_isOf m_Stroke_isOf 1 := xLu_of 650 653 651 678 652 651 77 678 (by decide +kernel)
theorem l_H_110_1 : xLu "HandOverHorse" 110 (xcn 1) ⟨"HandOverHorse$Stroke", "isOf", "(I)Z"⟩ m_Stroke_isOf m_Red_isOf 1 := xLu_of 650 653 651 678 672 662 82 663 (by decide +kernel)
theorem l_H_110_2 : xLu "HandOverHorse" 110 (xcn 2) ⟨"HandOverHorse$Stroke", "isOf", "(I)Z"⟩ m_Stroke_isOf m_Black_isOf 1 := xLu_of 650 653 651 678 654 655 83 656 (by decide +kernel)
theorem l_H_110_3 : xLu "HandOverHorse" 110 (xcn 3) ⟨"HandOverHorse$Stroke", "isOf", "(I)Z"⟩ m_Stroke_isOf m_Scratch_isOf 1 := xLu_of 650 653 651 678 673 669 84 670 (by decide +kernel)
theorem l_H_110_4 : xLu "HandOverHorse" 110 (xcn 4) ⟨"HandOverHorse$Stroke", "isOf", "(I)Z"⟩ m_Stroke_isOf m_Child_isOf 1 := xLu_of 650 653 651 678 658 659 85 660 (by decide +kernel)
theorem l_H_110_5 : xLu "HandOverHorse" 110 (xcn 5) ⟨"HandOverHorse$Stroke", "isOf", "(I)Z"⟩ m_Stroke_isOf m_Soot_isOf 1 := xLu_of 650 653 651 678 674 675 86 676 (by decide +kernel)
theorem l_H_110_6 : xLu "HandOverHorse" 110 (xcn 6) ⟨"HandOverHorse$Stroke", "isOf", "(I)Z"⟩ m_Stroke_isOf m_Forged_isOf 1 := xLu_of 650 653 651 678 665 666 87 667 (by decide +kernel)
theorem l_H_110 {c : Nat} (h : c < 7) : xLu "HandOverHorse" 110 (xcn c) ⟨"HandOverHorse$Stroke", "isOf", "(I)Z"⟩ m_Stroke_isOf (sel_isOf c) 1 := by
  rcases (show c = 0 ∨ c = 1 ∨ c = 2 ∨ c = 3 ∨ c = 4 ∨ c = 5 ∨ c = 6 by omega) with rfl | rfl | rfl | rfl | rfl | rfl | rfl
  · exact l_H_110_0
  · exact l_H_110_1
  · exact l_H_110_2
  · exact l_H_110_3
  · exact l_H_110_4
  · exact l_H_110_5
  · exact l_H_110_6
theorem l_H_113 : xLv "HandOverHorse" 113 m_Wall_isLook 3 := ⟨xLk_of 683 76 686 (by decide +kernel), xw_at 684 (by decide +kernel), xw_at 685 (by decide +kernel)⟩
theorem l_H_120 : xLv "HandOverHorse" 120 m_Wall_addLook 3 := ⟨xLk_of 692 76 695 (by decide +kernel), xw_at 693 (by decide +kernel), xw_at 694 (by decide +kernel)⟩
theorem l_H_123 : xLv "HandOverHorse" 123 m_Wall_hasLook 1 := ⟨xLk_of 700 76 703 (by decide +kernel), xw_at 701 (by decide +kernel), xw_at 702 (by decide +kernel)⟩
theorem l_H_135 : xLv "HandOverHorse" 135 m_Wall_weightOf 1 := ⟨xLk_of 704 76 707 (by decide +kernel), xw_at 705 (by decide +kernel), xw_at 706 (by decide +kernel)⟩
theorem l_H_141 : xLv "HandOverHorse" 141 m_Wall_addBytes 2 := ⟨xLk_of 720 76 723 (by decide +kernel), xw_at 721 (by decide +kernel), xw_at 722 (by decide +kernel)⟩
theorem l_H_145 : xLv "HandOverHorse" 145 m_Wall_readTape 1 := ⟨xLk_of 729 76 732 (by decide +kernel), xw_at 730 (by decide +kernel), xw_at 731 (by decide +kernel)⟩
theorem l_H_148 : xLv "HandOverHorse" 148 m_Wall_givenBy 5 := ⟨xLk_of 863 76 543 (by decide +kernel), xw_at 541 (by decide +kernel), xw_at 542 (by decide +kernel)⟩
theorem l_H_152 : xLv "HandOverHorse" 152 m_Sets_countOrders 1 := ⟨xLk_of 868 79 871 (by decide +kernel), xw_at 869 (by decide +kernel), xw_at 870 (by decide +kernel)⟩
theorem l_H_156 : xLv "HandOverHorse" 156 m_Wall_areTwo 2 := ⟨xLk_of 890 76 690 (by decide +kernel), xw_at 688 (by decide +kernel), xw_at 689 (by decide +kernel)⟩
theorem l_H_159 : xLv "HandOverHorse" 159 m_Sets_surely 3 := ⟨xLk_of 891 79 894 (by decide +kernel), xw_at 892 (by decide +kernel), xw_at 893 (by decide +kernel)⟩
theorem l_H_163 : xLv "HandOverHorse" 163 m_Sets_findBestOrder 1 := ⟨xLk_of 899 79 902 (by decide +kernel), xw_at 900 (by decide +kernel), xw_at 901 (by decide +kernel)⟩
theorem l_H_167 : xLv "HandOverHorse" 167 m_Sets_leastLoss 0 := ⟨xLk_of 918 79 921 (by decide +kernel), xw_at 919 (by decide +kernel), xw_at 920 (by decide +kernel)⟩
theorem l_H_170 : xLv "HandOverHorse" 170 m_Sets_looksNotHeld 1 := ⟨xLk_of 922 79 925 (by decide +kernel), xw_at 923 (by decide +kernel), xw_at 924 (by decide +kernel)⟩
theorem l_H_176 : xLv "HandOverHorse" 176 m_Spans_load 1 := ⟨xLk_of 934 80 937 (by decide +kernel), xw_at 935 (by decide +kernel), xw_at 936 (by decide +kernel)⟩
theorem l_H_179 : xLv "HandOverHorse" 179 m_Spans_settle 1 := ⟨xLk_of 940 80 943 (by decide +kernel), xw_at 941 (by decide +kernel), xw_at 942 (by decide +kernel)⟩
theorem l_H_189 : xLv "HandOverHorse" 189 m_Spans_widthByTest 3 := ⟨xLk_of 956 80 959 (by decide +kernel), xw_at 957 (by decide +kernel), xw_at 958 (by decide +kernel)⟩
theorem l_H_192 : xLv "HandOverHorse" 192 m_Spans_findNext 1 := ⟨xLk_of 969 80 972 (by decide +kernel), xw_at 970 (by decide +kernel), xw_at 971 (by decide +kernel)⟩
theorem l_H_201 : xLv "HandOverHorse" 201 m_Wall_twoJoin 2 := ⟨xLk_of 983 76 986 (by decide +kernel), xw_at 984 (by decide +kernel), xw_at 985 (by decide +kernel)⟩
theorem l_H_204 : xLv "HandOverHorse" 204 m_Sets_findJoinings 1 := ⟨xLk_of 1024 79 1027 (by decide +kernel), xw_at 1025 (by decide +kernel), xw_at 1026 (by decide +kernel)⟩
theorem l_H_207 : xLv "HandOverHorse" 207 m_Sets_joiningCount 1 := ⟨xLk_of 1042 79 1045 (by decide +kernel), xw_at 1043 (by decide +kernel), xw_at 1044 (by decide +kernel)⟩
theorem l_H_210 : xLv "HandOverHorse" 210 m_Sets_fewestBeasts 1 := ⟨xLk_of 1046 79 1049 (by decide +kernel), xw_at 1047 (by decide +kernel), xw_at 1048 (by decide +kernel)⟩
theorem l_H_213 : xLv "HandOverHorse" 213 m_Sets_findTimes 1 := ⟨xLk_of 1054 79 1057 (by decide +kernel), xw_at 1055 (by decide +kernel), xw_at 1056 (by decide +kernel)⟩
theorem l_H_216 : xLv "HandOverHorse" 216 m_Sets_fewestTimes 0 := ⟨xLk_of 1063 79 1066 (by decide +kernel), xw_at 1064 (by decide +kernel), xw_at 1065 (by decide +kernel)⟩
theorem l_H_219 : xLv "HandOverHorse" 219 m_Sets_firstTime 1 := ⟨xLk_of 1067 79 1070 (by decide +kernel), xw_at 1068 (by decide +kernel), xw_at 1069 (by decide +kernel)⟩
theorem l_H_225 : xLs "HandOverHorse" 225 m_Wall_far 2 := ⟨xLk_of 1079 76 993 (by decide +kernel), xw_at 992 (by decide +kernel)⟩
theorem l_H_229 : xLv "HandOverHorse" 229 m_Wall_handsFrom 1 := ⟨xLk_of 1084 76 1087 (by decide +kernel), xw_at 1085 (by decide +kernel), xw_at 1086 (by decide +kernel)⟩
theorem l_H_232 : xLs "HandOverHorse" 232 m_Int_bitCount 1 := ⟨xLk_of 1088 94 1038 (by decide +kernel), xw_at 1037 (by decide +kernel)⟩
theorem l_H_237 : xLv "HandOverHorse" 237 m_Wall_drawn 0 := ⟨xLk_of 1093 76 1096 (by decide +kernel), xw_at 1094 (by decide +kernel), xw_at 1095 (by decide +kernel)⟩
theorem l_H_240 : xLv "HandOverHorse" 240 m_Wall_turnLook 1 := ⟨xLk_of 1098 76 1101 (by decide +kernel), xw_at 1099 (by decide +kernel), xw_at 1100 (by decide +kernel)⟩
theorem l_H_247_0 : xLu "HandOverHorse" 247 (xcn 0) ⟨"HandOverHorse$Stroke", "draws", "([II)I"⟩ m_Stroke_draws m_Stroke_draws 2 := xLu_of 1110 1113 1111 1127 1112 1111 77 1127 (by decide +kernel)
theorem l_H_247_1 : xLu "HandOverHorse" 247 (xcn 1) ⟨"HandOverHorse$Stroke", "draws", "([II)I"⟩ m_Stroke_draws m_Stroke_draws 2 := xLu_of 1110 1113 1111 1127 1124 1111 77 1127 (by decide +kernel)
theorem l_H_247_2 : xLu "HandOverHorse" 247 (xcn 2) ⟨"HandOverHorse$Stroke", "draws", "([II)I"⟩ m_Stroke_draws m_Black_draws 2 := xLu_of 1110 1113 1111 1127 1114 1115 83 1116 (by decide +kernel)
theorem l_H_247_3 : xLu "HandOverHorse" 247 (xcn 3) ⟨"HandOverHorse$Stroke", "draws", "([II)I"⟩ m_Stroke_draws m_Stroke_draws 2 := xLu_of 1110 1113 1111 1127 1125 1111 77 1127 (by decide +kernel)
theorem l_H_247_4 : xLu "HandOverHorse" 247 (xcn 4) ⟨"HandOverHorse$Stroke", "draws", "([II)I"⟩ m_Stroke_draws m_Stroke_draws 2 := xLu_of 1110 1113 1111 1127 1122 1111 77 1127 (by decide +kernel)
theorem l_H_247_5 : xLu "HandOverHorse" 247 (xcn 5) ⟨"HandOverHorse$Stroke", "draws", "([II)I"⟩ m_Stroke_draws m_Black_draws 2 := xLu_of 1110 1113 1111 1127 1126 1115 83 1116 (by decide +kernel)
theorem l_H_247_6 : xLu "HandOverHorse" 247 (xcn 6) ⟨"HandOverHorse$Stroke", "draws", "([II)I"⟩ m_Stroke_draws m_Stroke_draws 2 := xLu_of 1110 1113 1111 1127 1123 1111 77 1127 (by decide +kernel)
theorem l_H_247 {c : Nat} (h : c < 7) : xLu "HandOverHorse" 247 (xcn c) ⟨"HandOverHorse$Stroke", "draws", "([II)I"⟩ m_Stroke_draws (sel_draws c) 2 := by
  rcases (show c = 0 ∨ c = 1 ∨ c = 2 ∨ c = 3 ∨ c = 4 ∨ c = 5 ∨ c = 6 by omega) with rfl | rfl | rfl | rfl | rfl | rfl | rfl
  · exact l_H_247_0
  · exact l_H_247_1
  · exact l_H_247_2
  · exact l_H_247_3
  · exact l_H_247_4
  · exact l_H_247_5
  · exact l_H_247_6
theorem l_H_251_0 : xLu "HandOverHorse" 251 (xcn 0) ⟨"HandOverHorse$Stroke", "dries", "([II)I"⟩ m_Stroke_dries m_Stroke_dries 2 := xLu_of 1129 1132 1130 1156 1131 1130 77 1156 (by decide +kernel)
theorem l_H_251_1 : xLu "HandOverHorse" 251 (xcn 1) ⟨"HandOverHorse$Stroke", "dries", "([II)I"⟩ m_Stroke_dries m_Red_dries 2 := xLu_of 1129 1132 1130 1156 1153 1140 82 1141 (by decide +kernel)
theorem l_H_251_2 : xLu "HandOverHorse" 251 (xcn 2) ⟨"HandOverHorse$Stroke", "dries", "([II)I"⟩ m_Stroke_dries m_Stroke_dries 2 := xLu_of 1129 1132 1130 1156 1133 1130 77 1156 (by decide +kernel)
theorem l_H_251_3 : xLu "HandOverHorse" 251 (xcn 3) ⟨"HandOverHorse$Stroke", "dries", "([II)I"⟩ m_Stroke_dries m_Stroke_dries 2 := xLu_of 1129 1132 1130 1156 1154 1130 77 1156 (by decide +kernel)
theorem l_H_251_4 : xLu "HandOverHorse" 251 (xcn 4) ⟨"HandOverHorse$Stroke", "dries", "([II)I"⟩ m_Stroke_dries m_Child_dries 2 := xLu_of 1129 1132 1130 1156 1134 1135 85 1136 (by decide +kernel)
theorem l_H_251_5 : xLu "HandOverHorse" 251 (xcn 5) ⟨"HandOverHorse$Stroke", "dries", "([II)I"⟩ m_Stroke_dries m_Stroke_dries 2 := xLu_of 1129 1132 1130 1156 1155 1130 77 1156 (by decide +kernel)
theorem l_H_251_6 : xLu "HandOverHorse" 251 (xcn 6) ⟨"HandOverHorse$Stroke", "dries", "([II)I"⟩ m_Stroke_dries m_Stroke_dries 2 := xLu_of 1129 1132 1130 1156 1152 1130 77 1156 (by decide +kernel)
theorem l_H_251 {c : Nat} (h : c < 7) : xLu "HandOverHorse" 251 (xcn c) ⟨"HandOverHorse$Stroke", "dries", "([II)I"⟩ m_Stroke_dries (sel_dries c) 2 := by
  rcases (show c = 0 ∨ c = 1 ∨ c = 2 ∨ c = 3 ∨ c = 4 ∨ c = 5 ∨ c = 6 by omega) with rfl | rfl | rfl | rfl | rfl | rfl | rfl
  · exact l_H_251_0
  · exact l_H_251_1
  · exact l_H_251_2
  · exact l_H_251_3
  · exact l_H_251_4
  · exact l_H_251_5
  · exact l_H_251_6
theorem l_H_254_0 : xLu "HandOverHorse" 254 (xcn 0) ⟨"HandOverHorse$Stroke", "peels", "([II)I"⟩ m_Stroke_peels m_Stroke_peels 2 := xLu_of 1158 1783 1150 1151 1791 1150 77 1151 (by decide +kernel)
theorem l_H_254_1 : xLu "HandOverHorse" 254 (xcn 1) ⟨"HandOverHorse$Stroke", "peels", "([II)I"⟩ m_Stroke_peels m_Stroke_peels 2 := xLu_of 1158 1783 1150 1151 1788 1150 77 1151 (by decide +kernel)
theorem l_H_254_2 : xLu "HandOverHorse" 254 (xcn 2) ⟨"HandOverHorse$Stroke", "peels", "([II)I"⟩ m_Stroke_peels m_Stroke_peels 2 := xLu_of 1158 1783 1150 1151 1784 1150 77 1151 (by decide +kernel)
theorem l_H_254_3 : xLu "HandOverHorse" 254 (xcn 3) ⟨"HandOverHorse$Stroke", "peels", "([II)I"⟩ m_Stroke_peels m_Scratch_peels 2 := xLu_of 1158 1783 1150 1151 1789 1164 84 1165 (by decide +kernel)
theorem l_H_254_4 : xLu "HandOverHorse" 254 (xcn 4) ⟨"HandOverHorse$Stroke", "peels", "([II)I"⟩ m_Stroke_peels m_Stroke_peels 2 := xLu_of 1158 1783 1150 1151 1785 1150 77 1151 (by decide +kernel)
theorem l_H_254_5 : xLu "HandOverHorse" 254 (xcn 5) ⟨"HandOverHorse$Stroke", "peels", "([II)I"⟩ m_Stroke_peels m_Stroke_peels 2 := xLu_of 1158 1783 1150 1151 1790 1150 77 1151 (by decide +kernel)
theorem l_H_254_6 : xLu "HandOverHorse" 254 (xcn 6) ⟨"HandOverHorse$Stroke", "peels", "([II)I"⟩ m_Stroke_peels m_Forged_peels 2 := xLu_of 1158 1783 1150 1151 1786 1159 87 1160 (by decide +kernel)
theorem l_H_254 {c : Nat} (h : c < 7) : xLu "HandOverHorse" 254 (xcn c) ⟨"HandOverHorse$Stroke", "peels", "([II)I"⟩ m_Stroke_peels (sel_peels c) 2 := by
  rcases (show c = 0 ∨ c = 1 ∨ c = 2 ∨ c = 3 ∨ c = 4 ∨ c = 5 ∨ c = 6 by omega) with rfl | rfl | rfl | rfl | rfl | rfl | rfl
  · exact l_H_254_0
  · exact l_H_254_1
  · exact l_H_254_2
  · exact l_H_254_3
  · exact l_H_254_4
  · exact l_H_254_5
  · exact l_H_254_6
theorem l_H_257_0 : xLu "HandOverHorse" 257 (xcn 0) ⟨"HandOverHorse$Stroke", "tells", "([II)I"⟩ m_Stroke_tells m_Stroke_tells 2 := xLu_of 1169 1172 1170 1198 1171 1170 77 1198 (by decide +kernel)
theorem l_H_257_1 : xLu "HandOverHorse" 257 (xcn 1) ⟨"HandOverHorse$Stroke", "tells", "([II)I"⟩ m_Stroke_tells m_Stroke_tells 2 := xLu_of 1169 1172 1170 1198 1185 1170 77 1198 (by decide +kernel)
theorem l_H_257_2 : xLu "HandOverHorse" 257 (xcn 2) ⟨"HandOverHorse$Stroke", "tells", "([II)I"⟩ m_Stroke_tells m_Stroke_tells 2 := xLu_of 1169 1172 1170 1198 1173 1170 77 1198 (by decide +kernel)
theorem l_H_257_3 : xLu "HandOverHorse" 257 (xcn 3) ⟨"HandOverHorse$Stroke", "tells", "([II)I"⟩ m_Stroke_tells m_Stroke_tells 2 := xLu_of 1169 1172 1170 1198 1186 1170 77 1198 (by decide +kernel)
theorem l_H_257_4 : xLu "HandOverHorse" 257 (xcn 4) ⟨"HandOverHorse$Stroke", "tells", "([II)I"⟩ m_Stroke_tells m_Stroke_tells 2 := xLu_of 1169 1172 1170 1198 1174 1170 77 1198 (by decide +kernel)
theorem l_H_257_5 : xLu "HandOverHorse" 257 (xcn 5) ⟨"HandOverHorse$Stroke", "tells", "([II)I"⟩ m_Stroke_tells m_Soot_tells 2 := xLu_of 1169 1172 1170 1198 1187 1188 86 1189 (by decide +kernel)
theorem l_H_257_6 : xLu "HandOverHorse" 257 (xcn 6) ⟨"HandOverHorse$Stroke", "tells", "([II)I"⟩ m_Stroke_tells m_Forged_tells 2 := xLu_of 1169 1172 1170 1198 1175 1176 87 1177 (by decide +kernel)
theorem l_H_257 {c : Nat} (h : c < 7) : xLu "HandOverHorse" 257 (xcn c) ⟨"HandOverHorse$Stroke", "tells", "([II)I"⟩ m_Stroke_tells (sel_tells c) 2 := by
  rcases (show c = 0 ∨ c = 1 ∨ c = 2 ∨ c = 3 ∨ c = 4 ∨ c = 5 ∨ c = 6 by omega) with rfl | rfl | rfl | rfl | rfl | rfl | rfl
  · exact l_H_257_0
  · exact l_H_257_1
  · exact l_H_257_2
  · exact l_H_257_3
  · exact l_H_257_4
  · exact l_H_257_5
  · exact l_H_257_6
theorem l_H_260 : xLs "HandOverHorse" 260 m_H_isSheet 1 := ⟨xLk_of 1209 75 1211 (by decide +kernel), xw_at 1210 (by decide +kernel)⟩
theorem l_H_263 : xLs "HandOverHorse" 263 m_H_areBits 1 := ⟨xLk_of 1212 75 1214 (by decide +kernel), xw_at 1213 (by decide +kernel)⟩
theorem l_H_266 : xLv "HandOverHorse" 266 m_H_stand 3 := ⟨xLk_of 1223 75 1226 (by decide +kernel), xw_at 1225 (by decide +kernel), xw_at 21 (by decide +kernel)⟩
theorem l_H_275 : xLv "HandOverHorse" 275 m_Wall_holdsUpTo 2 := ⟨xLk_of 1238 76 1241 (by decide +kernel), xw_at 1239 (by decide +kernel), xw_at 1240 (by decide +kernel)⟩
theorem l_H_279 : xLv "HandOverHorse" 279 m_Wall_copyFrom 1 := ⟨xLk_of 1246 76 1249 (by decide +kernel), xw_at 1247 (by decide +kernel), xw_at 1248 (by decide +kernel)⟩
theorem l_H_288 : xLv "HandOverHorse" 288 m_Wall_faultOfWaiting 0 := ⟨xLk_of 1264 76 1267 (by decide +kernel), xw_at 1265 (by decide +kernel), xw_at 1266 (by decide +kernel)⟩
