section
-- ===== PART A: goes FIRST, ahead of the names: the tables' words, and 'selects' of the private methods out of them =====
/-- a private method of a class that the tables say can be made, by its rows of tables_1 -/
def lw_okq (q : MethodName × Nat) : Prop := (q.1.cls ≠ "java/lang/invoke/MethodHandle" ∧ q.1.cls ≠ "java/lang/invoke/VarHandle") ∧ Cond.instantiable q.1.cls q.2 ∈ tables_1 ∧ Cond.privateMethod q.1 ∈ tables_1 ∧ Cond.instanceMethod q.1 ∈ tables_1
theorem lw_p0 : lw_okq (⟨"HandOverHorse", "error", "(I)I"⟩, 10) := ⟨⟨by decide +kernel, by decide +kernel⟩, List.mem_of_getElem? (i := 23) (by decide +kernel), List.mem_of_getElem? (i := 289) (by decide +kernel), List.mem_of_getElem? (i := 290) (by decide +kernel)⟩
theorem lw_p1 : lw_okq (⟨"HandOverHorse$Wall", "datesOf", "(I)I"⟩, 13) := ⟨⟨by decide +kernel, by decide +kernel⟩, List.mem_of_getElem? (i := 31) (by decide +kernel), List.mem_of_getElem? (i := 462) (by decide +kernel), List.mem_of_getElem? (i := 463) (by decide +kernel)⟩
theorem lw_p2 : lw_okq (⟨"HandOverHorse$Text", "readLevel", "(II)Z"⟩, 8) := ⟨⟨by decide +kernel, by decide +kernel⟩, List.mem_of_getElem? (i := 88) (by decide +kernel), List.mem_of_getElem? (i := 666) (by decide +kernel), List.mem_of_getElem? (i := 667) (by decide +kernel)⟩
theorem lw_p3 : lw_okq (⟨"HandOverHorse$Text", "readLeaf", "(I)Z"⟩, 8) := ⟨⟨by decide +kernel, by decide +kernel⟩, List.mem_of_getElem? (i := 88) (by decide +kernel), List.mem_of_getElem? (i := 670) (by decide +kernel), List.mem_of_getElem? (i := 671) (by decide +kernel)⟩
theorem lw_p4 : lw_okq (⟨"HandOverHorse$Text", "here", "()I"⟩, 8) := ⟨⟨by decide +kernel, by decide +kernel⟩, List.mem_of_getElem? (i := 88) (by decide +kernel), List.mem_of_getElem? (i := 674) (by decide +kernel), List.mem_of_getElem? (i := 675) (by decide +kernel)⟩
theorem lw_p5 : lw_okq (⟨"HandOverHorse$Text", "readNumber", "()V"⟩, 8) := ⟨⟨by decide +kernel, by decide +kernel⟩, List.mem_of_getElem? (i := 88) (by decide +kernel), List.mem_of_getElem? (i := 681) (by decide +kernel), List.mem_of_getElem? (i := 682) (by decide +kernel)⟩
theorem lw_p6 : lw_okq (⟨"HandOverHorse$Text", "addStep", "(II)V"⟩, 8) := ⟨⟨by decide +kernel, by decide +kernel⟩, List.mem_of_getElem? (i := 88) (by decide +kernel), List.mem_of_getElem? (i := 685) (by decide +kernel), List.mem_of_getElem? (i := 686) (by decide +kernel)⟩
theorem lw_p7 : lw_okq (⟨"HandOverHorse$Text", "readNot", "(I)Z"⟩, 8) := ⟨⟨by decide +kernel, by decide +kernel⟩, List.mem_of_getElem? (i := 88) (by decide +kernel), List.mem_of_getElem? (i := 689) (by decide +kernel), List.mem_of_getElem? (i := 690) (by decide +kernel)⟩
theorem lw_p8 : lw_okq (⟨"HandOverHorse$Text", "readBracket", "(I)Z"⟩, 8) := ⟨⟨by decide +kernel, by decide +kernel⟩, List.mem_of_getElem? (i := 88) (by decide +kernel), List.mem_of_getElem? (i := 693) (by decide +kernel), List.mem_of_getElem? (i := 694) (by decide +kernel)⟩
theorem lw_p9 : lw_okq (⟨"HandOverHorse$Sets", "findBelow", "(LHandOverHorse$Wall;)V"⟩, 8) := ⟨⟨by decide +kernel, by decide +kernel⟩, List.mem_of_getElem? (i := 181) (by decide +kernel), List.mem_of_getElem? (i := 799) (by decide +kernel), List.mem_of_getElem? (i := 800) (by decide +kernel)⟩
theorem lw_p10 : lw_okq (⟨"HandOverHorse$Sets", "readyAfter", "(II)I"⟩, 8) := ⟨⟨by decide +kernel, by decide +kernel⟩, List.mem_of_getElem? (i := 181) (by decide +kernel), List.mem_of_getElem? (i := 806) (by decide +kernel), List.mem_of_getElem? (i := 807) (by decide +kernel)⟩
theorem lw_p11 : lw_okq (⟨"HandOverHorse$Sets", "findLosses", "(LHandOverHorse$Wall;)V"⟩, 8) := ⟨⟨by decide +kernel, by decide +kernel⟩, List.mem_of_getElem? (i := 181) (by decide +kernel), List.mem_of_getElem? (i := 830) (by decide +kernel), List.mem_of_getElem? (i := 831) (by decide +kernel)⟩
theorem lw_p12 : lw_okq (⟨"HandOverHorse$Sets", "lossOf", "(II)I"⟩, 8) := ⟨⟨by decide +kernel, by decide +kernel⟩, List.mem_of_getElem? (i := 181) (by decide +kernel), List.mem_of_getElem? (i := 836) (by decide +kernel), List.mem_of_getElem? (i := 837) (by decide +kernel)⟩
theorem lw_p13 : lw_okq (⟨"HandOverHorse$Sets", "firstOfBest", "(II)I"⟩, 8) := ⟨⟨by decide +kernel, by decide +kernel⟩, List.mem_of_getElem? (i := 181) (by decide +kernel), List.mem_of_getElem? (i := 841) (by decide +kernel), List.mem_of_getElem? (i := 842) (by decide +kernel)⟩
theorem lw_p14 : lw_okq (⟨"HandOverHorse$Spans", "pushUp", "(LHandOverHorse$Wall;)Z"⟩, 8) := ⟨⟨by decide +kernel, by decide +kernel⟩, List.mem_of_getElem? (i := 214) (by decide +kernel), List.mem_of_getElem? (i := 871) (by decide +kernel), List.mem_of_getElem? (i := 872) (by decide +kernel)⟩
theorem lw_p15 : lw_okq (⟨"HandOverHorse$Spans", "pushDown", "(LHandOverHorse$Wall;)V"⟩, 8) := ⟨⟨by decide +kernel, by decide +kernel⟩, List.mem_of_getElem? (i := 214) (by decide +kernel), List.mem_of_getElem? (i := 875) (by decide +kernel), List.mem_of_getElem? (i := 876) (by decide +kernel)⟩
def lw_privs_1 : List (MethodName × Nat) := [(⟨"HandOverHorse", "error", "(I)I"⟩, 10), (⟨"HandOverHorse$Wall", "datesOf", "(I)I"⟩, 13), (⟨"HandOverHorse$Text", "readLevel", "(II)Z"⟩, 8), (⟨"HandOverHorse$Text", "readLeaf", "(I)Z"⟩, 8), (⟨"HandOverHorse$Text", "here", "()I"⟩, 8), (⟨"HandOverHorse$Text", "readNumber", "()V"⟩, 8), (⟨"HandOverHorse$Text", "addStep", "(II)V"⟩, 8), (⟨"HandOverHorse$Text", "readNot", "(I)Z"⟩, 8), (⟨"HandOverHorse$Text", "readBracket", "(I)Z"⟩, 8), (⟨"HandOverHorse$Sets", "findBelow", "(LHandOverHorse$Wall;)V"⟩, 8), (⟨"HandOverHorse$Sets", "readyAfter", "(II)I"⟩, 8), (⟨"HandOverHorse$Sets", "findLosses", "(LHandOverHorse$Wall;)V"⟩, 8), (⟨"HandOverHorse$Sets", "lossOf", "(II)I"⟩, 8), (⟨"HandOverHorse$Sets", "firstOfBest", "(II)I"⟩, 8), (⟨"HandOverHorse$Spans", "pushUp", "(LHandOverHorse$Wall;)Z"⟩, 8), (⟨"HandOverHorse$Spans", "pushDown", "(LHandOverHorse$Wall;)V"⟩, 8)]
theorem lw_r1 : ∀ q ∈ lw_privs_1, lw_okq q := List.forall_mem_cons.mpr ⟨lw_p0, List.forall_mem_cons.mpr ⟨lw_p1, List.forall_mem_cons.mpr ⟨lw_p2, List.forall_mem_cons.mpr ⟨lw_p3, List.forall_mem_cons.mpr ⟨lw_p4, List.forall_mem_cons.mpr ⟨lw_p5, List.forall_mem_cons.mpr ⟨lw_p6, List.forall_mem_cons.mpr ⟨lw_p7, List.forall_mem_cons.mpr ⟨lw_p8, List.forall_mem_cons.mpr ⟨lw_p9, List.forall_mem_cons.mpr ⟨lw_p10, List.forall_mem_cons.mpr ⟨lw_p11, List.forall_mem_cons.mpr ⟨lw_p12, List.forall_mem_cons.mpr ⟨lw_p13, List.forall_mem_cons.mpr ⟨lw_p14, List.forall_mem_cons.mpr ⟨lw_p15, fun _ h => absurd h List.not_mem_nil⟩⟩⟩⟩⟩⟩⟩⟩⟩⟩⟩⟩⟩⟩⟩⟩
theorem lw_p16 : lw_okq (⟨"HandOverHorse$Spans", "widthOf", "(I)I"⟩, 8) := ⟨⟨by decide +kernel, by decide +kernel⟩, List.mem_of_getElem? (i := 214) (by decide +kernel), List.mem_of_getElem? (i := 888) (by decide +kernel), List.mem_of_getElem? (i := 889) (by decide +kernel)⟩
theorem lw_p17 : lw_okq (⟨"HandOverHorse$Spans", "worstOf", "(LHandOverHorse$Wall;I)I"⟩, 8) := ⟨⟨by decide +kernel, by decide +kernel⟩, List.mem_of_getElem? (i := 214) (by decide +kernel), List.mem_of_getElem? (i := 900) (by decide +kernel), List.mem_of_getElem? (i := 901) (by decide +kernel)⟩
theorem lw_p18 : lw_okq (⟨"HandOverHorse$Sets", "findBeasts", "(LHandOverHorse$Wall;)V"⟩, 8) := ⟨⟨by decide +kernel, by decide +kernel⟩, List.mem_of_getElem? (i := 181) (by decide +kernel), List.mem_of_getElem? (i := 955) (by decide +kernel), List.mem_of_getElem? (i := 956) (by decide +kernel)⟩
theorem lw_p19 : lw_okq (⟨"HandOverHorse$Sets", "findAlike", "(LHandOverHorse$Wall;)V"⟩, 8) := ⟨⟨by decide +kernel, by decide +kernel⟩, List.mem_of_getElem? (i := 181) (by decide +kernel), List.mem_of_getElem? (i := 985) (by decide +kernel), List.mem_of_getElem? (i := 986) (by decide +kernel)⟩
theorem lw_p20 : lw_okq (⟨"HandOverHorse$Sets", "areAlike", "(I)Z"⟩, 8) := ⟨⟨by decide +kernel, by decide +kernel⟩, List.mem_of_getElem? (i := 181) (by decide +kernel), List.mem_of_getElem? (i := 998) (by decide +kernel), List.mem_of_getElem? (i := 999) (by decide +kernel)⟩
theorem lw_p21 : lw_okq (⟨"HandOverHorse", "stand", "(III)Z"⟩, 10) := ⟨⟨by decide +kernel, by decide +kernel⟩, List.mem_of_getElem? (i := 23) (by decide +kernel), List.mem_of_getElem? (i := 1150) (by decide +kernel), List.mem_of_getElem? (i := 1151) (by decide +kernel)⟩
theorem lw_p22 : lw_okq (⟨"HandOverHorse$Wall", "allBelowAre", "(II)Z"⟩, 13) := ⟨⟨by decide +kernel, by decide +kernel⟩, List.mem_of_getElem? (i := 31) (by decide +kernel), List.mem_of_getElem? (i := 1195) (by decide +kernel), List.mem_of_getElem? (i := 1196) (by decide +kernel)⟩
theorem lw_p23 : lw_okq (⟨"HandOverHorseModel", "finds", "(I)I"⟩, 27) := ⟨⟨by decide +kernel, by decide +kernel⟩, List.mem_of_getElem? (i := 1207) (by decide +kernel), List.mem_of_getElem? (i := 1303) (by decide +kernel), List.mem_of_getElem? (i := 1304) (by decide +kernel)⟩
theorem lw_p24 : lw_okq (⟨"HandOverHorseModel", "worked", "(III)I"⟩, 27) := ⟨⟨by decide +kernel, by decide +kernel⟩, List.mem_of_getElem? (i := 1207) (by decide +kernel), List.mem_of_getElem? (i := 1313) (by decide +kernel), List.mem_of_getElem? (i := 1314) (by decide +kernel)⟩
theorem lw_p25 : lw_okq (⟨"HandOverHorseModel", "either", "()I"⟩, 27) := ⟨⟨by decide +kernel, by decide +kernel⟩, List.mem_of_getElem? (i := 1207) (by decide +kernel), List.mem_of_getElem? (i := 1317) (by decide +kernel), List.mem_of_getElem? (i := 1318) (by decide +kernel)⟩
theorem lw_p26 : lw_okq (⟨"HandOverHorseModel", "both", "()I"⟩, 27) := ⟨⟨by decide +kernel, by decide +kernel⟩, List.mem_of_getElem? (i := 1207) (by decide +kernel), List.mem_of_getElem? (i := 1321) (by decide +kernel), List.mem_of_getElem? (i := 1322) (by decide +kernel)⟩
theorem lw_p27 : lw_okq (⟨"HandOverHorseModel", "compared", "()I"⟩, 27) := ⟨⟨by decide +kernel, by decide +kernel⟩, List.mem_of_getElem? (i := 1207) (by decide +kernel), List.mem_of_getElem? (i := 1325) (by decide +kernel), List.mem_of_getElem? (i := 1326) (by decide +kernel)⟩
theorem lw_p28 : lw_okq (⟨"HandOverHorseModel", "sum", "()I"⟩, 27) := ⟨⟨by decide +kernel, by decide +kernel⟩, List.mem_of_getElem? (i := 1207) (by decide +kernel), List.mem_of_getElem? (i := 1329) (by decide +kernel), List.mem_of_getElem? (i := 1330) (by decide +kernel)⟩
theorem lw_p29 : lw_okq (⟨"HandOverHorseModel", "product", "()I"⟩, 27) := ⟨⟨by decide +kernel, by decide +kernel⟩, List.mem_of_getElem? (i := 1207) (by decide +kernel), List.mem_of_getElem? (i := 1333) (by decide +kernel), List.mem_of_getElem? (i := 1334) (by decide +kernel)⟩
theorem lw_p30 : lw_okq (⟨"HandOverHorseModel", "unit", "()I"⟩, 27) := ⟨⟨by decide +kernel, by decide +kernel⟩, List.mem_of_getElem? (i := 1207) (by decide +kernel), List.mem_of_getElem? (i := 1337) (by decide +kernel), List.mem_of_getElem? (i := 1338) (by decide +kernel)⟩
theorem lw_p31 : lw_okq (⟨"HandOverHorseModel", "here", "()I"⟩, 27) := ⟨⟨by decide +kernel, by decide +kernel⟩, List.mem_of_getElem? (i := 1207) (by decide +kernel), List.mem_of_getElem? (i := 1341) (by decide +kernel), List.mem_of_getElem? (i := 1342) (by decide +kernel)⟩
def lw_privs_2 : List (MethodName × Nat) := [(⟨"HandOverHorse$Spans", "widthOf", "(I)I"⟩, 8), (⟨"HandOverHorse$Spans", "worstOf", "(LHandOverHorse$Wall;I)I"⟩, 8), (⟨"HandOverHorse$Sets", "findBeasts", "(LHandOverHorse$Wall;)V"⟩, 8), (⟨"HandOverHorse$Sets", "findAlike", "(LHandOverHorse$Wall;)V"⟩, 8), (⟨"HandOverHorse$Sets", "areAlike", "(I)Z"⟩, 8), (⟨"HandOverHorse", "stand", "(III)Z"⟩, 10), (⟨"HandOverHorse$Wall", "allBelowAre", "(II)Z"⟩, 13), (⟨"HandOverHorseModel", "finds", "(I)I"⟩, 27), (⟨"HandOverHorseModel", "worked", "(III)I"⟩, 27), (⟨"HandOverHorseModel", "either", "()I"⟩, 27), (⟨"HandOverHorseModel", "both", "()I"⟩, 27), (⟨"HandOverHorseModel", "compared", "()I"⟩, 27), (⟨"HandOverHorseModel", "sum", "()I"⟩, 27), (⟨"HandOverHorseModel", "product", "()I"⟩, 27), (⟨"HandOverHorseModel", "unit", "()I"⟩, 27), (⟨"HandOverHorseModel", "here", "()I"⟩, 27)]
theorem lw_r2 : ∀ q ∈ lw_privs_2, lw_okq q := List.forall_mem_cons.mpr ⟨lw_p16, List.forall_mem_cons.mpr ⟨lw_p17, List.forall_mem_cons.mpr ⟨lw_p18, List.forall_mem_cons.mpr ⟨lw_p19, List.forall_mem_cons.mpr ⟨lw_p20, List.forall_mem_cons.mpr ⟨lw_p21, List.forall_mem_cons.mpr ⟨lw_p22, List.forall_mem_cons.mpr ⟨lw_p23, List.forall_mem_cons.mpr ⟨lw_p24, List.forall_mem_cons.mpr ⟨lw_p25, List.forall_mem_cons.mpr ⟨lw_p26, List.forall_mem_cons.mpr ⟨lw_p27, List.forall_mem_cons.mpr ⟨lw_p28, List.forall_mem_cons.mpr ⟨lw_p29, List.forall_mem_cons.mpr ⟨lw_p30, List.forall_mem_cons.mpr ⟨lw_p31, fun _ h => absurd h List.not_mem_nil⟩⟩⟩⟩⟩⟩⟩⟩⟩⟩⟩⟩⟩⟩⟩⟩
theorem lw_p32 : lw_okq (⟨"HandOverHorseModel", "wrong", "()I"⟩, 27) := ⟨⟨by decide +kernel, by decide +kernel⟩, List.mem_of_getElem? (i := 1207) (by decide +kernel), List.mem_of_getElem? (i := 1345) (by decide +kernel), List.mem_of_getElem? (i := 1346) (by decide +kernel)⟩
theorem lw_p33 : lw_okq (⟨"HandOverHorseModel", "takes", "(I)Z"⟩, 27) := ⟨⟨by decide +kernel, by decide +kernel⟩, List.mem_of_getElem? (i := 1207) (by decide +kernel), List.mem_of_getElem? (i := 1349) (by decide +kernel), List.mem_of_getElem? (i := 1350) (by decide +kernel)⟩
theorem lw_p34 : lw_okq (⟨"HandOverHorseModel", "nameOf", "(I)I"⟩, 27) := ⟨⟨by decide +kernel, by decide +kernel⟩, List.mem_of_getElem? (i := 1207) (by decide +kernel), List.mem_of_getElem? (i := 1353) (by decide +kernel), List.mem_of_getElem? (i := 1354) (by decide +kernel)⟩
theorem lw_p35 : lw_okq (⟨"HandOverHorseModel", "gives", "(IIIII)I"⟩, 27) := ⟨⟨by decide +kernel, by decide +kernel⟩, List.mem_of_getElem? (i := 1207) (by decide +kernel), List.mem_of_getElem? (i := 1363) (by decide +kernel), List.mem_of_getElem? (i := 1364) (by decide +kernel)⟩
theorem lw_p36 : lw_okq (⟨"HandOverHorseModel", "becomes", "(III)V"⟩, 27) := ⟨⟨by decide +kernel, by decide +kernel⟩, List.mem_of_getElem? (i := 1207) (by decide +kernel), List.mem_of_getElem? (i := 1377) (by decide +kernel), List.mem_of_getElem? (i := 1378) (by decide +kernel)⟩
theorem lw_p37 : lw_okq (⟨"HandOverHorseModel", "isStroke", "(I)Z"⟩, 27) := ⟨⟨by decide +kernel, by decide +kernel⟩, List.mem_of_getElem? (i := 1207) (by decide +kernel), List.mem_of_getElem? (i := 1385) (by decide +kernel), List.mem_of_getElem? (i := 1386) (by decide +kernel)⟩
theorem lw_p38 : lw_okq (⟨"HandOverHorseModel", "of", "(II)I"⟩, 27) := ⟨⟨by decide +kernel, by decide +kernel⟩, List.mem_of_getElem? (i := 1207) (by decide +kernel), List.mem_of_getElem? (i := 1390) (by decide +kernel), List.mem_of_getElem? (i := 1391) (by decide +kernel)⟩
theorem lw_p39 : lw_okq (⟨"HandOverHorseModel", "earlyOf", "(I)I"⟩, 27) := ⟨⟨by decide +kernel, by decide +kernel⟩, List.mem_of_getElem? (i := 1207) (by decide +kernel), List.mem_of_getElem? (i := 1394) (by decide +kernel), List.mem_of_getElem? (i := 1395) (by decide +kernel)⟩
theorem lw_p40 : lw_okq (⟨"HandOverHorseModel", "dates", "(I)I"⟩, 27) := ⟨⟨by decide +kernel, by decide +kernel⟩, List.mem_of_getElem? (i := 1207) (by decide +kernel), List.mem_of_getElem? (i := 1398) (by decide +kernel), List.mem_of_getElem? (i := 1399) (by decide +kernel)⟩
theorem lw_p41 : lw_okq (⟨"HandOverHorseModel", "lateOf", "(I)I"⟩, 27) := ⟨⟨by decide +kernel, by decide +kernel⟩, List.mem_of_getElem? (i := 1207) (by decide +kernel), List.mem_of_getElem? (i := 1402) (by decide +kernel), List.mem_of_getElem? (i := 1403) (by decide +kernel)⟩
theorem lw_p42 : lw_okq (⟨"HandOverHorseModel", "stuff", "(I)I"⟩, 27) := ⟨⟨by decide +kernel, by decide +kernel⟩, List.mem_of_getElem? (i := 1207) (by decide +kernel), List.mem_of_getElem? (i := 1406) (by decide +kernel), List.mem_of_getElem? (i := 1407) (by decide +kernel)⟩
theorem lw_p43 : lw_okq (⟨"HandOverHorseModel", "isTold", "(III)Z"⟩, 27) := ⟨⟨by decide +kernel, by decide +kernel⟩, List.mem_of_getElem? (i := 1207) (by decide +kernel), List.mem_of_getElem? (i := 1436) (by decide +kernel), List.mem_of_getElem? (i := 1437) (by decide +kernel)⟩
theorem lw_p44 : lw_okq (⟨"HandOverHorseModel", "lookComes", "(III)I"⟩, 27) := ⟨⟨by decide +kernel, by decide +kernel⟩, List.mem_of_getElem? (i := 1207) (by decide +kernel), List.mem_of_getElem? (i := 1440) (by decide +kernel), List.mem_of_getElem? (i := 1441) (by decide +kernel)⟩
theorem lw_p45 : lw_okq (⟨"HandOverHorseModel", "isLook", "(I)Z"⟩, 27) := ⟨⟨by decide +kernel, by decide +kernel⟩, List.mem_of_getElem? (i := 1207) (by decide +kernel), List.mem_of_getElem? (i := 1448) (by decide +kernel), List.mem_of_getElem? (i := 1449) (by decide +kernel)⟩
theorem lw_p46 : lw_okq (⟨"HandOverHorseModel", "weightOf", "(I)I"⟩, 27) := ⟨⟨by decide +kernel, by decide +kernel⟩, List.mem_of_getElem? (i := 1207) (by decide +kernel), List.mem_of_getElem? (i := 1453) (by decide +kernel), List.mem_of_getElem? (i := 1454) (by decide +kernel)⟩
theorem lw_p47 : lw_okq (⟨"HandOverHorseModel", "upper", "(I)I"⟩, 27) := ⟨⟨by decide +kernel, by decide +kernel⟩, List.mem_of_getElem? (i := 1207) (by decide +kernel), List.mem_of_getElem? (i := 1457) (by decide +kernel), List.mem_of_getElem? (i := 1458) (by decide +kernel)⟩
def lw_privs_3 : List (MethodName × Nat) := [(⟨"HandOverHorseModel", "wrong", "()I"⟩, 27), (⟨"HandOverHorseModel", "takes", "(I)Z"⟩, 27), (⟨"HandOverHorseModel", "nameOf", "(I)I"⟩, 27), (⟨"HandOverHorseModel", "gives", "(IIIII)I"⟩, 27), (⟨"HandOverHorseModel", "becomes", "(III)V"⟩, 27), (⟨"HandOverHorseModel", "isStroke", "(I)Z"⟩, 27), (⟨"HandOverHorseModel", "of", "(II)I"⟩, 27), (⟨"HandOverHorseModel", "earlyOf", "(I)I"⟩, 27), (⟨"HandOverHorseModel", "dates", "(I)I"⟩, 27), (⟨"HandOverHorseModel", "lateOf", "(I)I"⟩, 27), (⟨"HandOverHorseModel", "stuff", "(I)I"⟩, 27), (⟨"HandOverHorseModel", "isTold", "(III)Z"⟩, 27), (⟨"HandOverHorseModel", "lookComes", "(III)I"⟩, 27), (⟨"HandOverHorseModel", "isLook", "(I)Z"⟩, 27), (⟨"HandOverHorseModel", "weightOf", "(I)I"⟩, 27), (⟨"HandOverHorseModel", "upper", "(I)I"⟩, 27)]
theorem lw_r3 : ∀ q ∈ lw_privs_3, lw_okq q := List.forall_mem_cons.mpr ⟨lw_p32, List.forall_mem_cons.mpr ⟨lw_p33, List.forall_mem_cons.mpr ⟨lw_p34, List.forall_mem_cons.mpr ⟨lw_p35, List.forall_mem_cons.mpr ⟨lw_p36, List.forall_mem_cons.mpr ⟨lw_p37, List.forall_mem_cons.mpr ⟨lw_p38, List.forall_mem_cons.mpr ⟨lw_p39, List.forall_mem_cons.mpr ⟨lw_p40, List.forall_mem_cons.mpr ⟨lw_p41, List.forall_mem_cons.mpr ⟨lw_p42, List.forall_mem_cons.mpr ⟨lw_p43, List.forall_mem_cons.mpr ⟨lw_p44, List.forall_mem_cons.mpr ⟨lw_p45, List.forall_mem_cons.mpr ⟨lw_p46, List.forall_mem_cons.mpr ⟨lw_p47, fun _ h => absurd h List.not_mem_nil⟩⟩⟩⟩⟩⟩⟩⟩⟩⟩⟩⟩⟩⟩⟩⟩
theorem lw_p48 : lw_okq (⟨"HandOverHorseModel", "countWays", "()V"⟩, 27) := ⟨⟨by decide +kernel, by decide +kernel⟩, List.mem_of_getElem? (i := 1207) (by decide +kernel), List.mem_of_getElem? (i := 1473) (by decide +kernel), List.mem_of_getElem? (i := 1474) (by decide +kernel)⟩
theorem lw_p49 : lw_okq (⟨"HandOverHorseModel", "findBelow", "()V"⟩, 27) := ⟨⟨by decide +kernel, by decide +kernel⟩, List.mem_of_getElem? (i := 1207) (by decide +kernel), List.mem_of_getElem? (i := 1477) (by decide +kernel), List.mem_of_getElem? (i := 1478) (by decide +kernel)⟩
theorem lw_p50 : lw_okq (⟨"HandOverHorseModel", "lower", "(I)I"⟩, 27) := ⟨⟨by decide +kernel, by decide +kernel⟩, List.mem_of_getElem? (i := 1207) (by decide +kernel), List.mem_of_getElem? (i := 1481) (by decide +kernel), List.mem_of_getElem? (i := 1482) (by decide +kernel)⟩
theorem lw_p51 : lw_okq (⟨"HandOverHorseModel", "allStrokes", "()I"⟩, 27) := ⟨⟨by decide +kernel, by decide +kernel⟩, List.mem_of_getElem? (i := 1207) (by decide +kernel), List.mem_of_getElem? (i := 1485) (by decide +kernel), List.mem_of_getElem? (i := 1486) (by decide +kernel)⟩
theorem lw_p52 : lw_okq (⟨"HandOverHorseModel", "mayLie", "(II)Z"⟩, 27) := ⟨⟨by decide +kernel, by decide +kernel⟩, List.mem_of_getElem? (i := 1207) (by decide +kernel), List.mem_of_getElem? (i := 1489) (by decide +kernel), List.mem_of_getElem? (i := 1490) (by decide +kernel)⟩
theorem lw_p53 : lw_okq (⟨"HandOverHorseModel", "findBest", "()I"⟩, 27) := ⟨⟨by decide +kernel, by decide +kernel⟩, List.mem_of_getElem? (i := 1207) (by decide +kernel), List.mem_of_getElem? (i := 1501) (by decide +kernel), List.mem_of_getElem? (i := 1502) (by decide +kernel)⟩
theorem lw_p54 : lw_okq (⟨"HandOverHorseModel", "costs", "(II)I"⟩, 27) := ⟨⟨by decide +kernel, by decide +kernel⟩, List.mem_of_getElem? (i := 1207) (by decide +kernel), List.mem_of_getElem? (i := 1506) (by decide +kernel), List.mem_of_getElem? (i := 1507) (by decide +kernel)⟩
theorem lw_p55 : lw_okq (⟨"HandOverHorseModel", "whichWrong", "()I"⟩, 27) := ⟨⟨by decide +kernel, by decide +kernel⟩, List.mem_of_getElem? (i := 1207) (by decide +kernel), List.mem_of_getElem? (i := 1510) (by decide +kernel), List.mem_of_getElem? (i := 1511) (by decide +kernel)⟩
theorem lw_p56 : lw_okq (⟨"HandOverHorseModel", "findYears", "()V"⟩, 27) := ⟨⟨by decide +kernel, by decide +kernel⟩, List.mem_of_getElem? (i := 1207) (by decide +kernel), List.mem_of_getElem? (i := 1522) (by decide +kernel), List.mem_of_getElem? (i := 1523) (by decide +kernel)⟩
theorem lw_p57 : lw_okq (⟨"HandOverHorseModel", "pushes", "()Z"⟩, 27) := ⟨⟨by decide +kernel, by decide +kernel⟩, List.mem_of_getElem? (i := 1207) (by decide +kernel), List.mem_of_getElem? (i := 1526) (by decide +kernel), List.mem_of_getElem? (i := 1527) (by decide +kernel)⟩
theorem lw_p58 : lw_okq (⟨"HandOverHorseModel", "widthBy", "(II)I"⟩, 27) := ⟨⟨by decide +kernel, by decide +kernel⟩, List.mem_of_getElem? (i := 1207) (by decide +kernel), List.mem_of_getElem? (i := 1535) (by decide +kernel), List.mem_of_getElem? (i := 1536) (by decide +kernel)⟩
theorem lw_p59 : lw_okq (⟨"HandOverHorseModel", "worstOf", "(I)I"⟩, 27) := ⟨⟨by decide +kernel, by decide +kernel⟩, List.mem_of_getElem? (i := 1207) (by decide +kernel), List.mem_of_getElem? (i := 1543) (by decide +kernel), List.mem_of_getElem? (i := 1544) (by decide +kernel)⟩
theorem lw_p60 : lw_okq (⟨"HandOverHorseModel", "joined", "(II)Z"⟩, 27) := ⟨⟨by decide +kernel, by decide +kernel⟩, List.mem_of_getElem? (i := 1207) (by decide +kernel), List.mem_of_getElem? (i := 1551) (by decide +kernel), List.mem_of_getElem? (i := 1552) (by decide +kernel)⟩
theorem lw_p61 : lw_okq (⟨"HandOverHorseModel", "gapOf", "(I)I"⟩, 27) := ⟨⟨by decide +kernel, by decide +kernel⟩, List.mem_of_getElem? (i := 1207) (by decide +kernel), List.mem_of_getElem? (i := 1561) (by decide +kernel), List.mem_of_getElem? (i := 1562) (by decide +kernel)⟩
theorem lw_p62 : lw_okq (⟨"HandOverHorseModel", "isBeast", "(I)Z"⟩, 27) := ⟨⟨by decide +kernel, by decide +kernel⟩, List.mem_of_getElem? (i := 1207) (by decide +kernel), List.mem_of_getElem? (i := 1569) (by decide +kernel), List.mem_of_getElem? (i := 1570) (by decide +kernel)⟩
theorem lw_p63 : lw_okq (⟨"HandOverHorseModel", "mayCome", "(II)Z"⟩, 27) := ⟨⟨by decide +kernel, by decide +kernel⟩, List.mem_of_getElem? (i := 1207) (by decide +kernel), List.mem_of_getElem? (i := 1577) (by decide +kernel), List.mem_of_getElem? (i := 1578) (by decide +kernel)⟩
def lw_privs_4 : List (MethodName × Nat) := [(⟨"HandOverHorseModel", "countWays", "()V"⟩, 27), (⟨"HandOverHorseModel", "findBelow", "()V"⟩, 27), (⟨"HandOverHorseModel", "lower", "(I)I"⟩, 27), (⟨"HandOverHorseModel", "allStrokes", "()I"⟩, 27), (⟨"HandOverHorseModel", "mayLie", "(II)Z"⟩, 27), (⟨"HandOverHorseModel", "findBest", "()I"⟩, 27), (⟨"HandOverHorseModel", "costs", "(II)I"⟩, 27), (⟨"HandOverHorseModel", "whichWrong", "()I"⟩, 27), (⟨"HandOverHorseModel", "findYears", "()V"⟩, 27), (⟨"HandOverHorseModel", "pushes", "()Z"⟩, 27), (⟨"HandOverHorseModel", "widthBy", "(II)I"⟩, 27), (⟨"HandOverHorseModel", "worstOf", "(I)I"⟩, 27), (⟨"HandOverHorseModel", "joined", "(II)Z"⟩, 27), (⟨"HandOverHorseModel", "gapOf", "(I)I"⟩, 27), (⟨"HandOverHorseModel", "isBeast", "(I)Z"⟩, 27), (⟨"HandOverHorseModel", "mayCome", "(II)Z"⟩, 27)]
theorem lw_r4 : ∀ q ∈ lw_privs_4, lw_okq q := List.forall_mem_cons.mpr ⟨lw_p48, List.forall_mem_cons.mpr ⟨lw_p49, List.forall_mem_cons.mpr ⟨lw_p50, List.forall_mem_cons.mpr ⟨lw_p51, List.forall_mem_cons.mpr ⟨lw_p52, List.forall_mem_cons.mpr ⟨lw_p53, List.forall_mem_cons.mpr ⟨lw_p54, List.forall_mem_cons.mpr ⟨lw_p55, List.forall_mem_cons.mpr ⟨lw_p56, List.forall_mem_cons.mpr ⟨lw_p57, List.forall_mem_cons.mpr ⟨lw_p58, List.forall_mem_cons.mpr ⟨lw_p59, List.forall_mem_cons.mpr ⟨lw_p60, List.forall_mem_cons.mpr ⟨lw_p61, List.forall_mem_cons.mpr ⟨lw_p62, List.forall_mem_cons.mpr ⟨lw_p63, fun _ h => absurd h List.not_mem_nil⟩⟩⟩⟩⟩⟩⟩⟩⟩⟩⟩⟩⟩⟩⟩⟩
theorem lw_p64 : lw_okq (⟨"HandOverHorseModel", "isHand", "(II)Z"⟩, 27) := ⟨⟨by decide +kernel, by decide +kernel⟩, List.mem_of_getElem? (i := 1207) (by decide +kernel), List.mem_of_getElem? (i := 1590) (by decide +kernel), List.mem_of_getElem? (i := 1591) (by decide +kernel)⟩
theorem lw_p65 : lw_okq (⟨"HandOverHorseModel", "drawn", "()I"⟩, 27) := ⟨⟨by decide +kernel, by decide +kernel⟩, List.mem_of_getElem? (i := 1207) (by decide +kernel), List.mem_of_getElem? (i := 1601) (by decide +kernel), List.mem_of_getElem? (i := 1602) (by decide +kernel)⟩
theorem lw_p66 : lw_okq (⟨"HandOverHorseModel", "own", "()I"⟩, 27) := ⟨⟨by decide +kernel, by decide +kernel⟩, List.mem_of_getElem? (i := 1207) (by decide +kernel), List.mem_of_getElem? (i := 1614) (by decide +kernel), List.mem_of_getElem? (i := 1615) (by decide +kernel)⟩
theorem lw_p67 : lw_okq (⟨"HandOverHorseModel", "draws", "(II)I"⟩, 27) := ⟨⟨by decide +kernel, by decide +kernel⟩, List.mem_of_getElem? (i := 1207) (by decide +kernel), List.mem_of_getElem? (i := 1618) (by decide +kernel), List.mem_of_getElem? (i := 1619) (by decide +kernel)⟩
theorem lw_p68 : lw_okq (⟨"HandOverHorseModel", "ran", "(I)V"⟩, 27) := ⟨⟨by decide +kernel, by decide +kernel⟩, List.mem_of_getElem? (i := 1207) (by decide +kernel), List.mem_of_getElem? (i := 1622) (by decide +kernel), List.mem_of_getElem? (i := 1623) (by decide +kernel)⟩
theorem lw_p69 : lw_okq (⟨"HandOverHorseModel", "dries", "(II)I"⟩, 27) := ⟨⟨by decide +kernel, by decide +kernel⟩, List.mem_of_getElem? (i := 1207) (by decide +kernel), List.mem_of_getElem? (i := 1626) (by decide +kernel), List.mem_of_getElem? (i := 1627) (by decide +kernel)⟩
theorem lw_p70 : lw_okq (⟨"HandOverHorseModel", "peels", "(II)I"⟩, 27) := ⟨⟨by decide +kernel, by decide +kernel⟩, List.mem_of_getElem? (i := 1207) (by decide +kernel), List.mem_of_getElem? (i := 1630) (by decide +kernel), List.mem_of_getElem? (i := 1631) (by decide +kernel)⟩
theorem lw_p71 : lw_okq (⟨"HandOverHorseModel", "tells", "(II)I"⟩, 27) := ⟨⟨by decide +kernel, by decide +kernel⟩, List.mem_of_getElem? (i := 1207) (by decide +kernel), List.mem_of_getElem? (i := 1634) (by decide +kernel), List.mem_of_getElem? (i := 1635) (by decide +kernel)⟩
theorem lw_p72 : lw_okq (⟨"HandOverHorseModel", "whyNot", "(I)I"⟩, 27) := ⟨⟨by decide +kernel, by decide +kernel⟩, List.mem_of_getElem? (i := 1207) (by decide +kernel), List.mem_of_getElem? (i := 1661) (by decide +kernel), List.mem_of_getElem? (i := 1662) (by decide +kernel)⟩
theorem lw_p73 : lw_okq (⟨"HandOverHorseModel", "isRight", "(II)Z"⟩, 27) := ⟨⟨by decide +kernel, by decide +kernel⟩, List.mem_of_getElem? (i := 1207) (by decide +kernel), List.mem_of_getElem? (i := 1669) (by decide +kernel), List.mem_of_getElem? (i := 1670) (by decide +kernel)⟩
def lw_privs_5 : List (MethodName × Nat) := [(⟨"HandOverHorseModel", "isHand", "(II)Z"⟩, 27), (⟨"HandOverHorseModel", "drawn", "()I"⟩, 27), (⟨"HandOverHorseModel", "own", "()I"⟩, 27), (⟨"HandOverHorseModel", "draws", "(II)I"⟩, 27), (⟨"HandOverHorseModel", "ran", "(I)V"⟩, 27), (⟨"HandOverHorseModel", "dries", "(II)I"⟩, 27), (⟨"HandOverHorseModel", "peels", "(II)I"⟩, 27), (⟨"HandOverHorseModel", "tells", "(II)I"⟩, 27), (⟨"HandOverHorseModel", "whyNot", "(I)I"⟩, 27), (⟨"HandOverHorseModel", "isRight", "(II)Z"⟩, 27)]
theorem lw_r5 : ∀ q ∈ lw_privs_5, lw_okq q := List.forall_mem_cons.mpr ⟨lw_p64, List.forall_mem_cons.mpr ⟨lw_p65, List.forall_mem_cons.mpr ⟨lw_p66, List.forall_mem_cons.mpr ⟨lw_p67, List.forall_mem_cons.mpr ⟨lw_p68, List.forall_mem_cons.mpr ⟨lw_p69, List.forall_mem_cons.mpr ⟨lw_p70, List.forall_mem_cons.mpr ⟨lw_p71, List.forall_mem_cons.mpr ⟨lw_p72, List.forall_mem_cons.mpr ⟨lw_p73, fun _ h => absurd h List.not_mem_nil⟩⟩⟩⟩⟩⟩⟩⟩⟩⟩
def lw_privs : List (MethodName × Nat) := lw_privs_1 ++ (lw_privs_2 ++ (lw_privs_3 ++ (lw_privs_4 ++ (lw_privs_5))))
def lw_tbl : List Cond := k2_sels lw_privs ++ tables_1
theorem lw_privs_ok : ∀ q ∈ lw_privs, lw_okq q := by
  show ∀ q ∈ lw_privs_1 ++ (lw_privs_2 ++ (lw_privs_3 ++ (lw_privs_4 ++ (lw_privs_5)))), lw_okq q
  exact List.forall_mem_append.mpr ⟨lw_r1, List.forall_mem_append.mpr ⟨lw_r2, List.forall_mem_append.mpr ⟨lw_r3, List.forall_mem_append.mpr ⟨lw_r4, lw_r5⟩⟩⟩⟩
-- names: classes in the order of the KINDS, then the others; fields by their slots
/-- the words of the tables that a call may take along -/
def xw : List Cond := lw_tbl.filter goodWord
theorem xw_of {w : Cond} (h : w ∈ lw_tbl) (hg : goodWord w = true) : w ∈ xw := List.mem_filter.mpr ⟨h, hg⟩
theorem xin_of {ws : List Cond} (ps : List Nat) (h : ps.map (fun i => lw_tbl[i]?) = ws.map some) (hg : ws.all goodWord = true) : ∀ w ∈ ws, w ∈ xw := by
  intro w hw
  refine xw_of ?_ (List.all_eq_true.mp hg w hw)
  have h1 : some w ∈ ws.map some := List.mem_map.mpr ⟨w, hw, rfl⟩
  rw [← h] at h1
  obtain ⟨i, -, hi⟩ := List.mem_map.mp h1
  exact List.mem_of_getElem? hi
def xT0 : u_T := fun k => match k with
  | 0 => ("HandOverHorse$Stroke", "number", "I", false)
  | 1 => ("HandOverHorse$Stroke", "m", "I", false)
  | 2 => ("HandOverHorse$Stroke", "cell", "I", false)
  | 3 => ("HandOverHorse$Stroke", "hand", "I", false)
  | 4 => ("HandOverHorse$Stroke", "from", "I", false)
  | 5 => ("HandOverHorse$Stroke", "to", "I", false)
  | _ => ("HandOverHorse$Stroke", "crust", "I", false)
def xt0 : Nat → FieldType := fun k => match k with
  | 0 => .int
  | 1 => .int
  | 2 => .int
  | 3 => .int
  | 4 => .int
  | 5 => .int
  | _ => .int
theorem xn0 : ∀ a, a < 7 → ∀ b, b < 7 → a ≠ b → (xT0 a).2.1 ≠ (xT0 b).2.1 := by decide +kernel
theorem xtk0 : ∀ k, k < 7 → parseFieldDescriptor (xT0 k).2.2.1 = some (xt0 k) := by decide +kernel
set_option maxRecDepth 20000 in
theorem xi0 : ∀ w ∈ u_ws "HandOverHorse$Stroke" xT0 7, w ∈ xw := xin_of [145, 147, 149, 151, 153, 155, 157] (by decide +kernel) (by decide +kernel)
def xT1 : u_T := fun k => match k with
  | 0 => ("HandOverHorse$Stroke", "number", "I", false)
  | 1 => ("HandOverHorse$Stroke", "m", "I", false)
  | 2 => ("HandOverHorse$Stroke", "cell", "I", false)
  | 3 => ("HandOverHorse$Stroke", "hand", "I", false)
  | 4 => ("HandOverHorse$Stroke", "from", "I", false)
  | 5 => ("HandOverHorse$Stroke", "to", "I", false)
  | _ => ("HandOverHorse$Stroke", "crust", "I", false)
def xt1 : Nat → FieldType := fun k => match k with
  | 0 => .int
  | 1 => .int
  | 2 => .int
  | 3 => .int
  | 4 => .int
  | 5 => .int
  | _ => .int
theorem xn1 : ∀ a, a < 7 → ∀ b, b < 7 → a ≠ b → (xT1 a).2.1 ≠ (xT1 b).2.1 := by decide +kernel
theorem xtk1 : ∀ k, k < 7 → parseFieldDescriptor (xT1 k).2.2.1 = some (xt1 k) := by decide +kernel
set_option maxRecDepth 20000 in
theorem xi1 : ∀ w ∈ u_ws "HandOverHorse$Red" xT1 7, w ∈ xw := xin_of [380, 381, 382, 383, 384, 385, 386] (by decide +kernel) (by decide +kernel)
def xT2 : u_T := fun k => match k with
  | 0 => ("HandOverHorse$Stroke", "number", "I", false)
  | 1 => ("HandOverHorse$Stroke", "m", "I", false)
  | 2 => ("HandOverHorse$Stroke", "cell", "I", false)
  | 3 => ("HandOverHorse$Stroke", "hand", "I", false)
  | 4 => ("HandOverHorse$Stroke", "from", "I", false)
  | 5 => ("HandOverHorse$Stroke", "to", "I", false)
  | _ => ("HandOverHorse$Stroke", "crust", "I", false)
def xt2 : Nat → FieldType := fun k => match k with
  | 0 => .int
  | 1 => .int
  | 2 => .int
  | 3 => .int
  | 4 => .int
  | 5 => .int
  | _ => .int
theorem xn2 : ∀ a, a < 7 → ∀ b, b < 7 → a ≠ b → (xT2 a).2.1 ≠ (xT2 b).2.1 := by decide +kernel
theorem xtk2 : ∀ k, k < 7 → parseFieldDescriptor (xT2 k).2.2.1 = some (xt2 k) := by decide +kernel
set_option maxRecDepth 20000 in
theorem xi2 : ∀ w ∈ u_ws "HandOverHorse$Black" xT2 7, w ∈ xw := xin_of [394, 395, 396, 397, 398, 399, 400] (by decide +kernel) (by decide +kernel)
def xT3 : u_T := fun k => match k with
  | 0 => ("HandOverHorse$Stroke", "number", "I", false)
  | 1 => ("HandOverHorse$Stroke", "m", "I", false)
  | 2 => ("HandOverHorse$Stroke", "cell", "I", false)
  | 3 => ("HandOverHorse$Stroke", "hand", "I", false)
  | 4 => ("HandOverHorse$Stroke", "from", "I", false)
  | 5 => ("HandOverHorse$Stroke", "to", "I", false)
  | _ => ("HandOverHorse$Stroke", "crust", "I", false)
def xt3 : Nat → FieldType := fun k => match k with
  | 0 => .int
  | 1 => .int
  | 2 => .int
  | 3 => .int
  | 4 => .int
  | 5 => .int
  | _ => .int
theorem xn3 : ∀ a, a < 7 → ∀ b, b < 7 → a ≠ b → (xT3 a).2.1 ≠ (xT3 b).2.1 := by decide +kernel
theorem xtk3 : ∀ k, k < 7 → parseFieldDescriptor (xT3 k).2.2.1 = some (xt3 k) := by decide +kernel
set_option maxRecDepth 20000 in
theorem xi3 : ∀ w ∈ u_ws "HandOverHorse$Scratch" xT3 7, w ∈ xw := xin_of [408, 409, 410, 411, 412, 413, 414] (by decide +kernel) (by decide +kernel)
def xT4 : u_T := fun k => match k with
  | 0 => ("HandOverHorse$Stroke", "number", "I", false)
  | 1 => ("HandOverHorse$Stroke", "m", "I", false)
  | 2 => ("HandOverHorse$Stroke", "cell", "I", false)
  | 3 => ("HandOverHorse$Stroke", "hand", "I", false)
  | 4 => ("HandOverHorse$Stroke", "from", "I", false)
  | 5 => ("HandOverHorse$Stroke", "to", "I", false)
  | _ => ("HandOverHorse$Stroke", "crust", "I", false)
def xt4 : Nat → FieldType := fun k => match k with
  | 0 => .int
  | 1 => .int
  | 2 => .int
  | 3 => .int
  | 4 => .int
  | 5 => .int
  | _ => .int
theorem xn4 : ∀ a, a < 7 → ∀ b, b < 7 → a ≠ b → (xT4 a).2.1 ≠ (xT4 b).2.1 := by decide +kernel
theorem xtk4 : ∀ k, k < 7 → parseFieldDescriptor (xT4 k).2.2.1 = some (xt4 k) := by decide +kernel
set_option maxRecDepth 20000 in
theorem xi4 : ∀ w ∈ u_ws "HandOverHorse$Child" xT4 7, w ∈ xw := xin_of [422, 423, 424, 425, 426, 427, 428] (by decide +kernel) (by decide +kernel)
def xT5 : u_T := fun k => match k with
  | 0 => ("HandOverHorse$Stroke", "number", "I", false)
  | 1 => ("HandOverHorse$Stroke", "m", "I", false)
  | 2 => ("HandOverHorse$Stroke", "cell", "I", false)
  | 3 => ("HandOverHorse$Stroke", "hand", "I", false)
  | 4 => ("HandOverHorse$Stroke", "from", "I", false)
  | 5 => ("HandOverHorse$Stroke", "to", "I", false)
  | _ => ("HandOverHorse$Stroke", "crust", "I", false)
def xt5 : Nat → FieldType := fun k => match k with
  | 0 => .int
  | 1 => .int
  | 2 => .int
  | 3 => .int
  | 4 => .int
  | 5 => .int
  | _ => .int
theorem xn5 : ∀ a, a < 7 → ∀ b, b < 7 → a ≠ b → (xT5 a).2.1 ≠ (xT5 b).2.1 := by decide +kernel
theorem xtk5 : ∀ k, k < 7 → parseFieldDescriptor (xT5 k).2.2.1 = some (xt5 k) := by decide +kernel
set_option maxRecDepth 20000 in
theorem xi5 : ∀ w ∈ u_ws "HandOverHorse$Soot" xT5 7, w ∈ xw := xin_of [436, 437, 438, 439, 440, 441, 442] (by decide +kernel) (by decide +kernel)
def xT6 : u_T := fun k => match k with
  | 0 => ("HandOverHorse$Stroke", "number", "I", false)
  | 1 => ("HandOverHorse$Stroke", "m", "I", false)
  | 2 => ("HandOverHorse$Stroke", "cell", "I", false)
  | 3 => ("HandOverHorse$Stroke", "hand", "I", false)
  | 4 => ("HandOverHorse$Stroke", "from", "I", false)
  | 5 => ("HandOverHorse$Stroke", "to", "I", false)
  | _ => ("HandOverHorse$Stroke", "crust", "I", false)
def xt6 : Nat → FieldType := fun k => match k with
  | 0 => .int
  | 1 => .int
  | 2 => .int
  | 3 => .int
  | 4 => .int
  | 5 => .int
  | _ => .int
theorem xn6 : ∀ a, a < 7 → ∀ b, b < 7 → a ≠ b → (xT6 a).2.1 ≠ (xT6 b).2.1 := by decide +kernel
theorem xtk6 : ∀ k, k < 7 → parseFieldDescriptor (xT6 k).2.2.1 = some (xt6 k) := by decide +kernel
set_option maxRecDepth 20000 in
theorem xi6 : ∀ w ∈ u_ws "HandOverHorse$Forged" xT6 7, w ∈ xw := xin_of [450, 451, 452, 453, 454, 455, 456] (by decide +kernel) (by decide +kernel)
def xT7 : u_T := fun k => match k with
  | 0 => ("HandOverHorse$Text", "steps", "[I", true)
  | 1 => ("HandOverHorse$Text", "values", "[I", true)
  | 2 => ("HandOverHorse$Text", "size", "I", false)
  | 3 => ("HandOverHorse$Text", "stack", "[I", true)
  | 4 => ("HandOverHorse$Text", "tape", "[I", false)
  | 5 => ("HandOverHorse$Text", "tapeCount", "I", false)
  | 6 => ("HandOverHorse$Text", "place", "I", false)
  | _ => ("HandOverHorse$Text", "names", "Ljava/lang/String;", false)
def xt7 : Nat → FieldType := fun k => match k with
  | 0 => .array .int
  | 1 => .array .int
  | 2 => .int
  | 3 => .array .int
  | 4 => .array .int
  | 5 => .int
  | 6 => .int
  | _ => .object "java/lang/String"
theorem xn7 : ∀ a, a < 8 → ∀ b, b < 8 → a ≠ b → (xT7 a).2.1 ≠ (xT7 b).2.1 := by decide +kernel
theorem xtk7 : ∀ k, k < 8 → parseFieldDescriptor (xT7 k).2.2.1 = some (xt7 k) := by decide +kernel
set_option maxRecDepth 20000 in
theorem xi7 : ∀ w ∈ u_ws "HandOverHorse$Text" xT7 8, w ∈ xw := xin_of [176, 178, 180, 182, 184, 186, 188, 190] (by decide +kernel) (by decide +kernel)
def xT8 : u_T := fun k => match k with
  | 0 => ("HandOverHorse$Wall", "strokes", "[LHandOverHorse$Stroke;", true)
  | 1 => ("HandOverHorse$Wall", "strokeCount", "I", false)
  | 2 => ("HandOverHorse$Wall", "uppers", "[I", true)
  | 3 => ("HandOverHorse$Wall", "lowers", "[I", true)
  | 4 => ("HandOverHorse$Wall", "seens", "[I", true)
  | 5 => ("HandOverHorse$Wall", "lookCount", "I", false)
  | 6 => ("HandOverHorse$Wall", "tape", "[I", true)
  | 7 => ("HandOverHorse$Wall", "tapeCount", "I", false)
  | 8 => ("HandOverHorse$Wall", "texts", "[LHandOverHorse$Text;", true)
  | 9 => ("HandOverHorse$Wall", "draft", "LHandOverHorse$Text;", true)
  | 10 => ("HandOverHorse$Wall", "waiting", "[I", true)
  | 11 => ("HandOverHorse$Wall", "waitingCount", "I", false)
  | _ => ("HandOverHorse$Wall", "z", "I", false)
def xt8 : Nat → FieldType := fun k => match k with
  | 0 => .array (.object "HandOverHorse$Stroke")
  | 1 => .int
  | 2 => .array .int
  | 3 => .array .int
  | 4 => .array .int
  | 5 => .int
  | 6 => .array .int
  | 7 => .int
  | 8 => .array (.object "HandOverHorse$Text")
  | 9 => .object "HandOverHorse$Text"
  | 10 => .array .int
  | 11 => .int
  | _ => .int
theorem xn8 : ∀ a, a < 13 → ∀ b, b < 13 → a ≠ b → (xT8 a).2.1 ≠ (xT8 b).2.1 := by decide +kernel
theorem xtk8 : ∀ k, k < 13 → parseFieldDescriptor (xT8 k).2.2.1 = some (xt8 k) := by decide +kernel
set_option maxRecDepth 20000 in
theorem xi8 : ∀ w ∈ u_ws "HandOverHorse$Wall" xT8 13, w ∈ xw := xin_of [227, 229, 231, 233, 235, 237, 239, 241, 243, 245, 247, 249, 251] (by decide +kernel) (by decide +kernel)
def xT9 : u_T := fun k => match k with
  | 0 => ("HandOverHorse$Sets", "bestOrder", "[I", true)
  | 1 => ("HandOverHorse$Sets", "below", "[I", true)
  | 2 => ("HandOverHorse$Sets", "friends", "[I", true)
  | 3 => ("HandOverHorse$Sets", "loss", "[I", true)
  | 4 => ("HandOverHorse$Sets", "alike", "[I", true)
  | 5 => ("HandOverHorse$Sets", "ways", "[I", true)
  | 6 => ("HandOverHorse$Sets", "fewest", "[I", true)
  | _ => ("HandOverHorse$Sets", "beast", "[Z", true)
def xt9 : Nat → FieldType := fun k => match k with
  | 0 => .array .int
  | 1 => .array .int
  | 2 => .array .int
  | 3 => .array .int
  | 4 => .array .int
  | 5 => .array .int
  | 6 => .array .int
  | _ => .array .boolean
theorem xn9 : ∀ a, a < 8 → ∀ b, b < 8 → a ≠ b → (xT9 a).2.1 ≠ (xT9 b).2.1 := by decide +kernel
theorem xtk9 : ∀ k, k < 8 → parseFieldDescriptor (xT9 k).2.2.1 = some (xt9 k) := by decide +kernel
set_option maxRecDepth 20000 in
theorem xi9 : ∀ w ∈ u_ws "HandOverHorse$Sets" xT9 8, w ∈ xw := xin_of [269, 271, 273, 275, 277, 279, 281, 283] (by decide +kernel) (by decide +kernel)
def xT10 : u_T := fun k => match k with
  | 0 => ("HandOverHorse$Spans", "least", "[I", true)
  | 1 => ("HandOverHorse$Spans", "greatest", "[I", true)
  | 2 => ("HandOverHorse$Spans", "nextStroke", "I", false)
  | 3 => ("HandOverHorse$Spans", "nextWorst", "I", false)
  | 4 => ("HandOverHorse$Spans", "early", "[I", true)
  | 5 => ("HandOverHorse$Spans", "late", "[I", true)
  | 6 => ("HandOverHorse$Spans", "firstLeast", "[I", true)
  | _ => ("HandOverHorse$Spans", "firstGreatest", "[I", true)
def xt10 : Nat → FieldType := fun k => match k with
  | 0 => .array .int
  | 1 => .array .int
  | 2 => .int
  | 3 => .int
  | 4 => .array .int
  | 5 => .array .int
  | 6 => .array .int
  | _ => .array .int
theorem xn10 : ∀ a, a < 8 → ∀ b, b < 8 → a ≠ b → (xT10 a).2.1 ≠ (xT10 b).2.1 := by decide +kernel
theorem xtk10 : ∀ k, k < 8 → parseFieldDescriptor (xT10 k).2.2.1 = some (xt10 k) := by decide +kernel
set_option maxRecDepth 20000 in
theorem xi10 : ∀ w ∈ u_ws "HandOverHorse$Spans" xT10 8, w ∈ xw := xin_of [305, 307, 309, 311, 313, 315, 317, 319] (by decide +kernel) (by decide +kernel)
def xT11 : u_T := fun k => match k with
  | 0 => ("HandOverHorse", "wall", "LHandOverHorse$Wall;", true)
  | 1 => ("HandOverHorse", "kept", "LHandOverHorse$Wall;", true)
  | 2 => ("HandOverHorse", "sets", "LHandOverHorse$Sets;", true)
  | 3 => ("HandOverHorse", "spans", "LHandOverHorse$Spans;", true)
  | 4 => ("HandOverHorse", "sheets", "[[I", true)
  | 5 => ("HandOverHorse", "sheetBits", "[I", true)
  | 6 => ("HandOverHorse", "sheetSizes", "[I", true)
  | 7 => ("HandOverHorse", "bodies", "[I", true)
  | 8 => ("HandOverHorse", "errors", "[I", true)
  | _ => ("HandOverHorse", "images", "I", false)
def xt11 : Nat → FieldType := fun k => match k with
  | 0 => .object "HandOverHorse$Wall"
  | 1 => .object "HandOverHorse$Wall"
  | 2 => .object "HandOverHorse$Sets"
  | 3 => .object "HandOverHorse$Spans"
  | 4 => .array (.array .int)
  | 5 => .array .int
  | 6 => .array .int
  | 7 => .array .int
  | 8 => .array .int
  | _ => .int
theorem xn11 : ∀ a, a < 10 → ∀ b, b < 10 → a ≠ b → (xT11 a).2.1 ≠ (xT11 b).2.1 := by decide +kernel
theorem xtk11 : ∀ k, k < 10 → parseFieldDescriptor (xT11 k).2.2.1 = some (xt11 k) := by decide +kernel
set_option maxRecDepth 20000 in
theorem xi11 : ∀ w ∈ u_ws "HandOverHorse" xT11 10, w ∈ xw := xin_of [334, 336, 338, 340, 342, 344, 346, 348, 350, 352] (by decide +kernel) (by decide +kernel)
def xT12 : u_T := fun k => match k with
  | 0 => ("HandOverHorseModel", "d", "[I", true)
  | 1 => ("HandOverHorseModel", "kept", "[I", true)
  | 2 => ("HandOverHorseModel", "images", "I", false)
  | 3 => ("HandOverHorseModel", "found", "[I", true)
  | 4 => ("HandOverHorseModel", "base", "I", false)
  | 5 => ("HandOverHorseModel", "at", "I", false)
  | 6 => ("HandOverHorseModel", "size", "I", false)
  | 7 => ("HandOverHorseModel", "fault", "I", false)
  | 8 => ("HandOverHorseModel", "opened", "I", false)
  | 9 => ("HandOverHorseModel", "isDoubt", "Z", false)
  | 10 => ("HandOverHorseModel", "names", "[I", true)
  | 11 => ("HandOverHorseModel", "below", "[I", true)
  | 12 => ("HandOverHorseModel", "waysTo", "[I", true)
  | 13 => ("HandOverHorseModel", "waysOn", "[I", true)
  | 14 => ("HandOverHorseModel", "least", "[I", true)
  | 15 => ("HandOverHorseModel", "row", "[I", true)
  | 16 => ("HandOverHorseModel", "early", "[I", true)
  | 17 => ("HandOverHorseModel", "late", "[I", true)
  | 18 => ("HandOverHorseModel", "beast", "[Z", true)
  | 19 => ("HandOverHorseModel", "parted", "[I", true)
  | 20 => ("HandOverHorseModel", "traced", "[I", true)
  | 21 => ("HandOverHorseModel", "traceMany", "I", false)
  | 22 => ("HandOverHorseModel", "who", "I", false)
  | 23 => ("HandOverHorseModel", "bitsOf", "[I", true)
  | 24 => ("HandOverHorseModel", "sizeOf", "[I", true)
  | 25 => ("HandOverHorseModel", "number", "[I", true)
  | _ => ("HandOverHorseModel", "lifted", "[I", true)
def xt12 : Nat → FieldType := fun k => match k with
  | 0 => .array .int
  | 1 => .array .int
  | 2 => .int
  | 3 => .array .int
  | 4 => .int
  | 5 => .int
  | 6 => .int
  | 7 => .int
  | 8 => .int
  | 9 => .boolean
  | 10 => .array .int
  | 11 => .array .int
  | 12 => .array .int
  | 13 => .array .int
  | 14 => .array .int
  | 15 => .array .int
  | 16 => .array .int
  | 17 => .array .int
  | 18 => .array .boolean
  | 19 => .array .int
  | 20 => .array .int
  | 21 => .int
  | 22 => .int
  | 23 => .array .int
  | 24 => .array .int
  | 25 => .array .int
  | _ => .array .int
theorem xn12 : ∀ a, a < 27 → ∀ b, b < 27 → a ≠ b → (xT12 a).2.1 ≠ (xT12 b).2.1 := by decide +kernel
theorem xtk12 : ∀ k, k < 27 → parseFieldDescriptor (xT12 k).2.2.1 = some (xt12 k) := by decide +kernel
set_option maxRecDepth 20000 in
theorem xi12 : ∀ w ∈ u_ws "HandOverHorseModel" xT12 27, w ∈ xw := xin_of [1313, 1315, 1317, 1319, 1321, 1323, 1325, 1327, 1329, 1331, 1333, 1335, 1337, 1339, 1341, 1343, 1345, 1347, 1349, 1351, 1353, 1355, 1357, 1359, 1361, 1363, 1365] (by decide +kernel) (by decide +kernel)
def xCl : List vw_C := [("HandOverHorse$Stroke", xT0, 7), ("HandOverHorse$Red", xT1, 7), ("HandOverHorse$Black", xT2, 7), ("HandOverHorse$Scratch", xT3, 7), ("HandOverHorse$Child", xT4, 7), ("HandOverHorse$Soot", xT5, 7), ("HandOverHorse$Forged", xT6, 7), ("HandOverHorse$Text", xT7, 8), ("HandOverHorse$Wall", xT8, 13), ("HandOverHorse$Sets", xT9, 8), ("HandOverHorse$Spans", xT10, 8), ("HandOverHorse", xT11, 10), ("HandOverHorseModel", xT12, 27)]
end
section
abbrev PE : Type := Nat × Instr × Nat × Nat × List (Int32 × Nat)
abbrev MI : Type := MethodName × ByteArray × Nat × Option FieldType × List PE × Nat
def p_Black_init : List PE := [(0, .aload_n 0, 1, 0, []),
  (1, .invokespecial 1, 4, 0, []),
  (4, .return_, 5, 0, [])]
def m_Black_init : MI := (⟨"HandOverHorse$Black", "<init>", "()V"⟩, prog_2_method_1_code, 1, none, p_Black_init, 2)
def p_Black_kind : List PE := [(0, .iconst 2, 1, 0, [(2, 0)]),
  (1, .ireturn, 2, 0, [])]
def m_Black_kind : MI := (⟨"HandOverHorse$Black", "kind", "()I"⟩, prog_2_method_2_code, 1, (some .int), p_Black_kind, 2)
def p_Black_isOf : List PE := [(0, .iload_n 1, 1, 1, []),
  (1, .iconst 2, 2, 0, [(2, 0)]),
  (2, .if_icmp .eq 11, 5, 13, []),
  (5, .aload_n 0, 6, 0, []),
  (6, .iload_n 1, 7, 1, []),
  (7, .invokespecial 7, 10, 0, []),
  (10, .ifCond .eq 7, 13, 17, []),
  (13, .iconst 1, 14, 0, [(1, 0)]),
  (14, .goto 4, 17, 18, []),
  (17, .iconst 0, 18, 0, [(0, 0)]),
  (18, .ireturn, 19, 0, [])]
def m_Black_isOf : MI := (⟨"HandOverHorse$Black", "isOf", "(I)Z"⟩, prog_2_method_3_code, 2, (some .boolean), p_Black_isOf, 2)
def p_Black_late : List PE := [(0, .aload_n 0, 1, 0, []),
  (1, .invokespecial 11, 4, 0, []),
  (4, .aload_n 0, 5, 0, []),
  (5, .getfield 15, 8, 6, []),
  (8, .isub, 9, 0, []),
  (9, .ireturn, 10, 0, [])]
def m_Black_late : MI := (⟨"HandOverHorse$Black", "late", "()I"⟩, prog_2_method_4_code, 1, (some .int), p_Black_late, 2)
def p_Black_stuff : List PE := [(0, .iconst 2, 1, 0, [(2, 0)]),
  (1, .ireturn, 2, 0, [])]
def m_Black_stuff : MI := (⟨"HandOverHorse$Black", "stuff", "()I"⟩, prog_2_method_5_code, 1, (some .int), p_Black_stuff, 2)
def p_Black_draws : List PE := [(0, .aload_n 1, 1, 1, []),
  (1, .bipush 30, 3, 0, [(30, 0)]),
  (3, .invokestatic 21, 6, 0, []),
  (6, .aload_n 0, 7, 0, []),
  (7, .aload_n 1, 8, 1, []),
  (8, .iload_n 2, 9, 2, []),
  (9, .invokespecial 25, 12, 0, []),
  (12, .iconst 3, 13, 0, [(3, 0)]),
  (13, .imul, 14, 0, []),
  (14, .ireturn, 15, 0, [])]
def m_Black_draws : MI := (⟨"HandOverHorse$Black", "draws", "([II)I"⟩, prog_2_method_6_code, 3, (some .int), p_Black_draws, 2)
def p_Child_init : List PE := [(0, .aload_n 0, 1, 0, []),
  (1, .invokespecial 1, 4, 0, []),
  (4, .return_, 5, 0, [])]
def m_Child_init : MI := (⟨"HandOverHorse$Child", "<init>", "()V"⟩, prog_3_method_1_code, 1, none, p_Child_init, 4)
def p_Child_kind : List PE := [(0, .iconst 4, 1, 0, [(4, 0)]),
  (1, .ireturn, 2, 0, [])]
def m_Child_kind : MI := (⟨"HandOverHorse$Child", "kind", "()I"⟩, prog_3_method_2_code, 1, (some .int), p_Child_kind, 4)
def p_Child_isOf : List PE := [(0, .iload_n 1, 1, 1, []),
  (1, .iconst 4, 2, 0, [(4, 0)]),
  (2, .if_icmp .eq 11, 5, 13, []),
  (5, .aload_n 0, 6, 0, []),
  (6, .iload_n 1, 7, 1, []),
  (7, .invokespecial 7, 10, 0, []),
  (10, .ifCond .eq 7, 13, 17, []),
  (13, .iconst 1, 14, 0, [(1, 0)]),
  (14, .goto 4, 17, 18, []),
  (17, .iconst 0, 18, 0, [(0, 0)]),
  (18, .ireturn, 19, 0, [])]
def m_Child_isOf : MI := (⟨"HandOverHorse$Child", "isOf", "(I)Z"⟩, prog_3_method_3_code, 2, (some .boolean), p_Child_isOf, 4)
def p_Child_early : List PE := [(0, .aload_n 0, 1, 0, []),
  (1, .invokespecial 11, 4, 0, []),
  (4, .bipush 50, 6, 0, [(50, 0)]),
  (6, .iadd, 7, 0, []),
  (7, .ireturn, 8, 0, [])]
def m_Child_early : MI := (⟨"HandOverHorse$Child", "early", "()I"⟩, prog_3_method_4_code, 1, (some .int), p_Child_early, 4)
def p_Child_late : List PE := [(0, .aload_n 0, 1, 0, []),
  (1, .invokespecial 15, 4, 0, []),
  (4, .aload_n 0, 5, 0, []),
  (5, .getfield 18, 8, 1, []),
  (8, .isub, 9, 0, []),
  (9, .ireturn, 10, 0, [])]
def m_Child_late : MI := (⟨"HandOverHorse$Child", "late", "()I"⟩, prog_3_method_5_code, 1, (some .int), p_Child_late, 4)
def p_Child_gap : List PE := [(0, .iconst 0, 1, 0, [(0, 0)]),
  (1, .ireturn, 2, 0, [])]
def m_Child_gap : MI := (⟨"HandOverHorse$Child", "gap", "()I"⟩, prog_3_method_6_code, 1, (some .int), p_Child_gap, 4)
def p_Child_dries : List PE := [(0, .aload_n 1, 1, 1, []),
  (1, .bipush 50, 3, 0, [(50, 0)]),
  (3, .invokestatic 24, 6, 0, []),
  (6, .aload_n 0, 7, 0, []),
  (7, .aload_n 1, 8, 1, []),
  (8, .iload_n 2, 9, 2, []),
  (9, .iconst 1, 10, 0, [(1, 0)]),
  (10, .iadd, 11, 0, []),
  (11, .invokespecial 28, 14, 0, []),
  (14, .ireturn, 15, 0, [])]
def m_Child_dries : MI := (⟨"HandOverHorse$Child", "dries", "([II)I"⟩, prog_3_method_7_code, 3, (some .int), p_Child_dries, 4)
def p_Forged_init : List PE := [(0, .aload_n 0, 1, 0, []),
  (1, .invokespecial 3, 4, 0, []),
  (4, .return_, 5, 0, [])]
def m_Forged_init : MI := (⟨"HandOverHorse$Forged", "<init>", "()V"⟩, prog_4_method_1_code, 1, none, p_Forged_init, 6)
def p_Forged_kind : List PE := [(0, .bipush 6, 2, 0, [(6, 0)]),
  (2, .ireturn, 3, 0, [])]
def m_Forged_kind : MI := (⟨"HandOverHorse$Forged", "kind", "()I"⟩, prog_4_method_2_code, 1, (some .int), p_Forged_kind, 6)
def p_Forged_isOf : List PE := [(0, .iload_n 1, 1, 1, []),
  (1, .bipush 6, 3, 0, [(6, 0)]),
  (3, .if_icmp .eq 11, 6, 14, []),
  (6, .aload_n 0, 7, 0, []),
  (7, .iload_n 1, 8, 1, []),
  (8, .invokespecial 9, 11, 0, []),
  (11, .ifCond .eq 7, 14, 18, []),
  (14, .iconst 1, 15, 0, [(1, 0)]),
  (15, .goto 4, 18, 19, []),
  (18, .iconst 0, 19, 0, [(0, 0)]),
  (19, .ireturn, 20, 0, [])]
def m_Forged_isOf : MI := (⟨"HandOverHorse$Forged", "isOf", "(I)Z"⟩, prog_4_method_3_code, 2, (some .boolean), p_Forged_isOf, 6)
def p_Forged_early : List PE := [(0, .aload_n 0, 1, 0, []),
  (1, .invokespecial 13, 4, 0, []),
  (4, .sipush 5000, 7, 0, [(5000, 0)]),
  (7, .invokestatic 17, 10, 0, []),
  (10, .ireturn, 11, 0, [])]
def m_Forged_early : MI := (⟨"HandOverHorse$Forged", "early", "()I"⟩, prog_4_method_4_code, 1, (some .int), p_Forged_early, 6)
def p_Forged_late : List PE := [(0, .sipush 9999, 3, 0, [(9999, 0)]),
  (3, .ireturn, 4, 0, [])]
def m_Forged_late : MI := (⟨"HandOverHorse$Forged", "late", "()I"⟩, prog_4_method_5_code, 1, (some .int), p_Forged_late, 6)
def p_Forged_gap : List PE := [(0, .aload_n 0, 1, 0, []),
  (1, .invokespecial 23, 4, 0, []),
  (4, .aload_n 0, 5, 0, []),
  (5, .getfield 26, 8, 1, []),
  (8, .iadd, 9, 0, []),
  (9, .ireturn, 10, 0, [])]
def m_Forged_gap : MI := (⟨"HandOverHorse$Forged", "gap", "()I"⟩, prog_4_method_6_code, 1, (some .int), p_Forged_gap, 6)
def p_Forged_peels : List PE := [(0, .aload_n 1, 1, 1, []),
  (1, .bipush 70, 3, 0, [(70, 0)]),
  (3, .invokestatic 32, 6, 0, []),
  (6, .aload_n 0, 7, 0, []),
  (7, .aload_n 1, 8, 1, []),
  (8, .iload_n 2, 9, 2, []),
  (9, .invokespecial 36, 12, 0, []),
  (12, .aload_n 0, 13, 0, []),
  (13, .getfield 40, 16, 0, []),
  (16, .ixor, 17, 0, []),
  (17, .ireturn, 18, 0, [])]
def m_Forged_peels : MI := (⟨"HandOverHorse$Forged", "peels", "([II)I"⟩, prog_4_method_7_code, 3, (some .int), p_Forged_peels, 6)
def p_Forged_tells : List PE := [(0, .aload_n 1, 1, 1, []),
  (1, .bipush 71, 3, 0, [(71, 0)]),
  (3, .invokestatic 32, 6, 0, []),
  (6, .aload_n 0, 7, 0, []),
  (7, .aload_n 1, 8, 1, []),
  (8, .iload_n 2, 9, 2, []),
  (9, .invokevirtual 43, 12, 0, []),
  (12, .aload_n 0, 13, 0, []),
  (13, .aload_n 1, 14, 1, []),
  (14, .iload_n 2, 15, 2, []),
  (15, .invokespecial 46, 18, 0, []),
  (18, .isub, 19, 0, []),
  (19, .ireturn, 20, 0, [])]
def m_Forged_tells : MI := (⟨"HandOverHorse$Forged", "tells", "([II)I"⟩, prog_4_method_8_code, 3, (some .int), p_Forged_tells, 6)
def p_Red_init : List PE := [(0, .aload_n 0, 1, 0, []),
  (1, .invokespecial 1, 4, 0, []),
  (4, .return_, 5, 0, [])]
def m_Red_init : MI := (⟨"HandOverHorse$Red", "<init>", "()V"⟩, prog_5_method_1_code, 1, none, p_Red_init, 1)
def p_Red_kind : List PE := [(0, .iconst 1, 1, 0, [(1, 0)]),
  (1, .ireturn, 2, 0, [])]
def m_Red_kind : MI := (⟨"HandOverHorse$Red", "kind", "()I"⟩, prog_5_method_2_code, 1, (some .int), p_Red_kind, 1)
def p_Red_isOf : List PE := [(0, .iload_n 1, 1, 1, []),
  (1, .iconst 1, 2, 0, [(1, 0)]),
  (2, .if_icmp .eq 11, 5, 13, []),
  (5, .aload_n 0, 6, 0, []),
  (6, .iload_n 1, 7, 1, []),
  (7, .invokespecial 7, 10, 0, []),
  (10, .ifCond .eq 7, 13, 17, []),
  (13, .iconst 1, 14, 0, [(1, 0)]),
  (14, .goto 4, 17, 18, []),
  (17, .iconst 0, 18, 0, [(0, 0)]),
  (18, .ireturn, 19, 0, [])]
def m_Red_isOf : MI := (⟨"HandOverHorse$Red", "isOf", "(I)Z"⟩, prog_5_method_3_code, 2, (some .boolean), p_Red_isOf, 1)
def p_Red_early : List PE := [(0, .aload_n 0, 1, 0, []),
  (1, .invokespecial 11, 4, 0, []),
  (4, .aload_n 0, 5, 0, []),
  (5, .getfield 15, 8, 1, []),
  (8, .iadd, 9, 0, []),
  (9, .ireturn, 10, 0, [])]
def m_Red_early : MI := (⟨"HandOverHorse$Red", "early", "()I"⟩, prog_5_method_4_code, 1, (some .int), p_Red_early, 1)
def p_Red_stuff : List PE := [(0, .iconst 1, 1, 0, [(1, 0)]),
  (1, .ireturn, 2, 0, [])]
def m_Red_stuff : MI := (⟨"HandOverHorse$Red", "stuff", "()I"⟩, prog_5_method_5_code, 1, (some .int), p_Red_stuff, 1)
def p_Red_gap : List PE := [(0, .aload_n 0, 1, 0, []),
  (1, .invokespecial 21, 4, 0, []),
  (4, .aload_n 0, 5, 0, []),
  (5, .getfield 15, 8, 1, []),
  (8, .iconst 3, 9, 0, [(3, 0)]),
  (9, .idiv, 10, 0, []),
  (10, .iadd, 11, 0, []),
  (11, .ireturn, 12, 0, [])]
def m_Red_gap : MI := (⟨"HandOverHorse$Red", "gap", "()I"⟩, prog_5_method_6_code, 1, (some .int), p_Red_gap, 1)
def p_Red_dries : List PE := [(0, .aload_n 1, 1, 1, []),
  (1, .bipush 20, 3, 0, [(20, 0)]),
  (3, .invokestatic 24, 6, 0, []),
  (6, .aload_n 0, 7, 0, []),
  (7, .aload_n 1, 8, 1, []),
  (8, .iload_n 2, 9, 2, []),
  (9, .invokespecial 28, 12, 0, []),
  (12, .aload_n 0, 13, 0, []),
  (13, .aload_n 1, 14, 1, []),
  (14, .iconst 1, 15, 0, [(1, 0)]),
  (15, .invokevirtual 32, 18, 0, []),
  (18, .isub, 19, 0, []),
  (19, .ireturn, 20, 0, [])]
def m_Red_dries : MI := (⟨"HandOverHorse$Red", "dries", "([II)I"⟩, prog_5_method_7_code, 3, (some .int), p_Red_dries, 1)
def p_Scratch_init : List PE := [(0, .aload_n 0, 1, 0, []),
  (1, .invokespecial 1, 4, 0, []),
  (4, .return_, 5, 0, [])]
def m_Scratch_init : MI := (⟨"HandOverHorse$Scratch", "<init>", "()V"⟩, prog_6_method_1_code, 1, none, p_Scratch_init, 3)
def p_Scratch_kind : List PE := [(0, .iconst 3, 1, 0, [(3, 0)]),
  (1, .ireturn, 2, 0, [])]
def m_Scratch_kind : MI := (⟨"HandOverHorse$Scratch", "kind", "()I"⟩, prog_6_method_2_code, 1, (some .int), p_Scratch_kind, 3)
def p_Scratch_isOf : List PE := [(0, .iload_n 1, 1, 1, []),
  (1, .iconst 3, 2, 0, [(3, 0)]),
  (2, .if_icmp .eq 11, 5, 13, []),
  (5, .aload_n 0, 6, 0, []),
  (6, .iload_n 1, 7, 1, []),
  (7, .invokespecial 7, 10, 0, []),
  (10, .ifCond .eq 7, 13, 17, []),
  (13, .iconst 1, 14, 0, [(1, 0)]),
  (14, .goto 4, 17, 18, []),
  (17, .iconst 0, 18, 0, [(0, 0)]),
  (18, .ireturn, 19, 0, [])]
def m_Scratch_isOf : MI := (⟨"HandOverHorse$Scratch", "isOf", "(I)Z"⟩, prog_6_method_3_code, 2, (some .boolean), p_Scratch_isOf, 3)
def p_Scratch_early : List PE := [(0, .aload_n 0, 1, 0, []),
  (1, .invokespecial 11, 4, 0, []),
  (4, .bipush 10, 6, 0, [(10, 0)]),
  (6, .aload_n 0, 7, 0, []),
  (7, .getfield 15, 10, 1, []),
  (10, .imul, 11, 0, []),
  (11, .isub, 12, 0, []),
  (12, .ireturn, 13, 0, [])]
def m_Scratch_early : MI := (⟨"HandOverHorse$Scratch", "early", "()I"⟩, prog_6_method_4_code, 1, (some .int), p_Scratch_early, 3)
def p_Scratch_stuff : List PE := [(0, .iconst 3, 1, 0, [(3, 0)]),
  (1, .ireturn, 2, 0, [])]
def m_Scratch_stuff : MI := (⟨"HandOverHorse$Scratch", "stuff", "()I"⟩, prog_6_method_5_code, 1, (some .int), p_Scratch_stuff, 3)
def p_Scratch_gap : List PE := [(0, .iconst 2, 1, 0, [(2, 0)]),
  (1, .ireturn, 2, 0, [])]
def m_Scratch_gap : MI := (⟨"HandOverHorse$Scratch", "gap", "()I"⟩, prog_6_method_6_code, 1, (some .int), p_Scratch_gap, 3)
def p_Scratch_peels : List PE := [(0, .aload_n 1, 1, 1, []),
  (1, .bipush 40, 3, 0, [(40, 0)]),
  (3, .invokestatic 21, 6, 0, []),
  (6, .aload_n 0, 7, 0, []),
  (7, .aload_n 1, 8, 1, []),
  (8, .iload_n 2, 9, 2, []),
  (9, .invokespecial 25, 12, 0, []),
  (12, .ineg, 13, 0, []),
  (13, .ireturn, 14, 0, [])]
def m_Scratch_peels : MI := (⟨"HandOverHorse$Scratch", "peels", "([II)I"⟩, prog_6_method_7_code, 3, (some .int), p_Scratch_peels, 3)
def p_Sets_init : List PE := [(0, .aload_n 0, 1, 0, []),
  (1, .invokespecial 3, 4, 0, []),
  (4, .aload_n 0, 5, 0, []),
  (5, .bipush 8, 7, 0, [(8, 0)]),
  (7, .newarray .int, 9, 0, []),
  (9, .putfield 9, 12, 0, []),
  (12, .aload_n 0, 13, 0, []),
  (13, .bipush 8, 15, 0, [(8, 0)]),
  (15, .newarray .int, 17, 0, []),
  (17, .putfield 15, 20, 1, []),
  (20, .aload_n 0, 21, 0, []),
  (21, .bipush 8, 23, 0, [(8, 0)]),
  (23, .newarray .int, 25, 0, []),
  (25, .putfield 18, 28, 2, []),
  (28, .aload_n 0, 29, 0, []),
  (29, .bipush 64, 31, 0, [(64, 0)]),
  (31, .newarray .int, 33, 0, []),
  (33, .putfield 21, 36, 3, []),
  (36, .aload_n 0, 37, 0, []),
  (37, .iconst 4, 38, 0, [(4, 0)]),
  (38, .newarray .int, 40, 0, []),
  (40, .putfield 24, 43, 4, []),
  (43, .aload_n 0, 44, 0, []),
  (44, .sipush 256, 47, 0, [(256, 0)]),
  (47, .newarray .int, 49, 0, []),
  (49, .putfield 27, 52, 5, []),
  (52, .aload_n 0, 53, 0, []),
  (53, .sipush 256, 56, 0, [(256, 0)]),
  (56, .newarray .int, 58, 0, []),
  (58, .putfield 30, 61, 6, []),
  (61, .aload_n 0, 62, 0, []),
  (62, .sipush 256, 65, 0, [(256, 0)]),
  (65, .newarray .boolean, 67, 0, []),
  (67, .putfield 33, 70, 7, []),
  (70, .return_, 71, 0, [])]
def m_Sets_init : MI := (⟨"HandOverHorse$Sets", "<init>", "()V"⟩, prog_7_method_1_code, 1, none, p_Sets_init, 9)
def p_Sets_allOf : List PE := [(0, .iconst 1, 1, 0, [(1, 0)]),
  (1, .aload_n 0, 2, 0, []),
  (2, .getfield 37, 5, 1, []),
  (5, .ishl, 6, 0, []),
  (6, .iconst 1, 7, 0, [(1, 0)]),
  (7, .isub, 8, 0, []),
  (8, .ireturn, 9, 0, [])]
def m_Sets_allOf : MI := (⟨"HandOverHorse$Sets", "allOf", "(LHandOverHorse$Wall;)I"⟩, prog_7_method_2_code, 1, (some .int), p_Sets_allOf, 9)
def p_Sets_has : List PE := [(0, .iload_n 0, 1, 0, []),
  (1, .iload_n 1, 2, 1, []),
  (2, .ishr, 3, 0, []),
  (3, .iconst 1, 4, 0, [(1, 0)]),
  (4, .iand, 5, 0, []),
  (5, .ifCond .eq 7, 8, 12, []),
  (8, .iconst 1, 9, 0, [(1, 0)]),
  (9, .goto 4, 12, 13, []),
  (12, .iconst 0, 13, 0, [(0, 0)]),
  (13, .ireturn, 14, 0, [])]
def m_Sets_has : MI := (⟨"HandOverHorse$Sets", "has", "(II)Z"⟩, prog_7_method_3_code, 2, (some .boolean), p_Sets_has, 9)
def p_Sets_findBelow : List PE := [(0, .iconst 0, 1, 0, [(0, 0)]),
  (1, .istore_n 2, 2, 2, []),
  (2, .iload_n 2, 3, 2, []),
  (3, .bipush 8, 5, 0, [(8, 0)]),
  (5, .if_icmp .ge 16, 8, 21, []),
  (8, .aload_n 0, 9, 0, []),
  (9, .getfield 15, 12, 1, []),
  (12, .iload_n 2, 13, 2, []),
  (13, .iconst 0, 14, 0, [(0, 0)]),
  (14, .iastore, 15, 0, []),
  (15, .iinc 2 1, 18, 2, [(1, 0)]),
  (18, .goto (-16), 21, 2, []),
  (21, .iconst 0, 22, 0, [(0, 0)]),
  (22, .istore_n 2, 23, 2, []),
  (23, .iload_n 2, 24, 2, []),
  (24, .aload_n 1, 25, 1, []),
  (25, .getfield 43, 28, 5, []),
  (28, .if_icmp .ge 31, 31, 59, []),
  (31, .aload_n 0, 32, 0, []),
  (32, .getfield 15, 35, 1, []),
  (35, .aload_n 1, 36, 1, []),
  (36, .getfield 46, 39, 2, []),
  (39, .iload_n 2, 40, 2, []),
  (40, .iaload, 41, 0, []),
  (41, .dup2, 42, 0, []),
  (42, .iaload, 43, 0, []),
  (43, .iconst 1, 44, 0, [(1, 0)]),
  (44, .aload_n 1, 45, 1, []),
  (45, .getfield 49, 48, 3, []),
  (48, .iload_n 2, 49, 2, []),
  (49, .iaload, 50, 0, []),
  (50, .ishl, 51, 0, []),
  (51, .ior, 52, 0, []),
  (52, .iastore, 53, 0, []),
  (53, .iinc 2 1, 56, 2, [(1, 0)]),
  (56, .goto (-33), 59, 23, []),
  (59, .return_, 60, 0, [])]
def m_Sets_findBelow : MI := (⟨"HandOverHorse$Sets", "findBelow", "(LHandOverHorse$Wall;)V"⟩, prog_7_method_4_code, 3, none, p_Sets_findBelow, 9)
def p_Sets_readyAfter : List PE := [(0, .iconst 0, 1, 0, [(0, 0)]),
  (1, .istore_n 3, 2, 3, []),
  (2, .iconst 0, 3, 0, [(0, 0)]),
  (3, .istore 4, 5, 4, []),
  (5, .iload 4, 7, 4, []),
  (7, .iload_n 2, 8, 2, []),
  (8, .if_icmp .ge 39, 11, 47, []),
  (11, .iload_n 1, 12, 1, []),
  (12, .iload 4, 14, 4, []),
  (14, .invokestatic 52, 17, 0, []),
  (17, .ifCond .ne 24, 20, 41, []),
  (20, .aload_n 0, 21, 0, []),
  (21, .getfield 15, 24, 1, []),
  (24, .iload 4, 26, 4, []),
  (26, .iaload, 27, 0, []),
  (27, .iload_n 1, 28, 1, []),
  (28, .iconst (-1), 29, 0, [((-1), 0)]),
  (29, .ixor, 30, 0, []),
  (30, .iand, 31, 0, []),
  (31, .ifCond .ne 10, 34, 41, []),
  (34, .iload_n 3, 35, 3, []),
  (35, .iconst 1, 36, 0, [(1, 0)]),
  (36, .iload 4, 38, 4, []),
  (38, .ishl, 39, 0, []),
  (39, .ior, 40, 0, []),
  (40, .istore_n 3, 41, 3, []),
  (41, .iinc 4 1, 44, 4, [(1, 0)]),
  (44, .goto (-39), 47, 5, []),
  (47, .iload_n 3, 48, 3, []),
  (48, .ireturn, 49, 0, [])]
def m_Sets_readyAfter : MI := (⟨"HandOverHorse$Sets", "readyAfter", "(II)I"⟩, prog_7_method_5_code, 5, (some .int), p_Sets_readyAfter, 9)
def p_Sets_countOrders : List PE := [(0, .aload_n 0, 1, 0, []),
  (1, .aload_n 1, 2, 1, []),
  (2, .invokevirtual 56, 5, 0, []),
  (5, .aload_n 1, 6, 1, []),
  (6, .invokestatic 60, 9, 0, []),
  (9, .istore_n 2, 10, 2, []),
  (10, .iconst 1, 11, 0, [(1, 0)]),
  (11, .istore_n 3, 12, 3, []),
  (12, .iload_n 3, 13, 3, []),
  (13, .iload_n 2, 14, 2, []),
  (14, .if_icmp .gt 16, 17, 30, []),
  (17, .aload_n 0, 18, 0, []),
  (18, .getfield 27, 21, 5, []),
  (21, .iload_n 3, 22, 3, []),
  (22, .iconst 0, 23, 0, [(0, 0)]),
  (23, .iastore, 24, 0, []),
  (24, .iinc 3 1, 27, 3, [(1, 0)]),
  (27, .goto (-15), 30, 12, []),
  (30, .aload_n 0, 31, 0, []),
  (31, .getfield 27, 34, 5, []),
  (34, .iconst 0, 35, 0, [(0, 0)]),
  (35, .iconst 1, 36, 0, [(1, 0)]),
  (36, .iastore, 37, 0, []),
  (37, .iconst 0, 38, 0, [(0, 0)]),
  (38, .istore_n 3, 39, 3, []),
  (39, .iload_n 3, 40, 3, []),
  (40, .iload_n 2, 41, 2, []),
  (41, .if_icmp .ge 77, 44, 118, []),
  (44, .aload_n 0, 45, 0, []),
  (45, .getfield 27, 48, 5, []),
  (48, .iload_n 3, 49, 3, []),
  (49, .iaload, 50, 0, []),
  (50, .ifCond .eq 62, 53, 112, []),
  (53, .aload_n 0, 54, 0, []),
  (54, .iload_n 3, 55, 3, []),
  (55, .aload_n 1, 56, 1, []),
  (56, .getfield 37, 59, 1, []),
  (59, .invokevirtual 64, 62, 0, []),
  (62, .istore 4, 64, 4, []),
  (64, .iconst 0, 65, 0, [(0, 0)]),
  (65, .istore 5, 67, 5, []),
  (67, .iload 5, 69, 5, []),
  (69, .aload_n 1, 70, 1, []),
  (70, .getfield 37, 73, 1, []),
  (73, .if_icmp .ge 39, 76, 112, []),
  (76, .iload 4, 78, 4, []),
  (78, .iload 5, 80, 5, []),
  (80, .invokestatic 52, 83, 0, []),
  (83, .ifCond .eq 23, 86, 106, []),
  (86, .aload_n 0, 87, 0, []),
  (87, .getfield 27, 90, 5, []),
  (90, .iload_n 3, 91, 3, []),
  (91, .iconst 1, 92, 0, [(1, 0)]),
  (92, .iload 5, 94, 5, []),
  (94, .ishl, 95, 0, []),
  (95, .ior, 96, 0, []),
  (96, .dup2, 97, 0, []),
  (97, .iaload, 98, 0, []),
  (98, .aload_n 0, 99, 0, []),
  (99, .getfield 27, 102, 5, []),
  (102, .iload_n 3, 103, 3, []),
  (103, .iaload, 104, 0, []),
  (104, .iadd, 105, 0, []),
  (105, .iastore, 106, 0, []),
  (106, .iinc 5 1, 109, 5, [(1, 0)]),
  (109, .goto (-42), 112, 67, []),
  (112, .iinc 3 1, 115, 3, [(1, 0)]),
  (115, .goto (-76), 118, 39, []),
  (118, .aload_n 0, 119, 0, []),
  (119, .getfield 27, 122, 5, []),
  (122, .iload_n 2, 123, 2, []),
  (123, .iaload, 124, 0, []),
  (124, .ireturn, 125, 0, [])]
def m_Sets_countOrders : MI := (⟨"HandOverHorse$Sets", "countOrders", "(LHandOverHorse$Wall;)I"⟩, prog_7_method_6_code, 6, (some .int), p_Sets_countOrders, 9)
def p_Sets_surely : List PE := [(0, .aload_n 0, 1, 0, []),
  (1, .aload_n 1, 2, 1, []),
  (2, .invokevirtual 56, 5, 0, []),
  (5, .aload_n 1, 6, 1, []),
  (6, .getfield 37, 9, 1, []),
  (9, .istore 4, 11, 4, []),
  (11, .iconst 0, 12, 0, [(0, 0)]),
  (12, .istore 5, 14, 5, []),
  (14, .iload 5, 16, 5, []),
  (16, .iload 4, 18, 4, []),
  (18, .if_icmp .ge 57, 21, 75, []),
  (21, .iconst 0, 22, 0, [(0, 0)]),
  (22, .istore 6, 24, 6, []),
  (24, .iload 6, 26, 6, []),
  (26, .iload 4, 28, 4, []),
  (28, .if_icmp .ge 41, 31, 69, []),
  (31, .aload_n 0, 32, 0, []),
  (32, .getfield 15, 35, 1, []),
  (35, .iload 6, 37, 6, []),
  (37, .iaload, 38, 0, []),
  (38, .iload 5, 40, 5, []),
  (40, .invokestatic 52, 43, 0, []),
  (43, .ifCond .eq 20, 46, 63, []),
  (46, .aload_n 0, 47, 0, []),
  (47, .getfield 15, 50, 1, []),
  (50, .iload 6, 52, 6, []),
  (52, .dup2, 53, 0, []),
  (53, .iaload, 54, 0, []),
  (54, .aload_n 0, 55, 0, []),
  (55, .getfield 15, 58, 1, []),
  (58, .iload 5, 60, 5, []),
  (60, .iaload, 61, 0, []),
  (61, .ior, 62, 0, []),
  (62, .iastore, 63, 0, []),
  (63, .iinc 6 1, 66, 6, [(1, 0)]),
  (66, .goto (-42), 69, 24, []),
  (69, .iinc 5 1, 72, 5, [(1, 0)]),
  (72, .goto (-58), 75, 14, []),
  (75, .iconst 0, 76, 0, [(0, 0)]),
  (76, .istore 5, 78, 5, []),
  (78, .iload 5, 80, 5, []),
  (80, .iload 4, 82, 4, []),
  (82, .if_icmp .ge 26, 85, 108, []),
  (85, .aload_n 0, 86, 0, []),
  (86, .getfield 15, 89, 1, []),
  (89, .iload 5, 91, 5, []),
  (91, .iaload, 92, 0, []),
  (92, .iload 5, 94, 5, []),
  (94, .invokestatic 52, 97, 0, []),
  (97, .ifCond .eq 5, 100, 102, []),
  (100, .iconst 0, 101, 0, [(0, 0)]),
  (101, .ireturn, 102, 0, []),
  (102, .iinc 5 1, 105, 5, [(1, 0)]),
  (105, .goto (-27), 108, 78, []),
  (108, .aload_n 0, 109, 0, []),
  (109, .getfield 15, 112, 1, []),
  (112, .iload_n 2, 113, 2, []),
  (113, .iaload, 114, 0, []),
  (114, .iload_n 3, 115, 3, []),
  (115, .invokestatic 52, 118, 0, []),
  (118, .ifCond .eq 5, 121, 123, []),
  (121, .iconst 1, 122, 0, [(1, 0)]),
  (122, .ireturn, 123, 0, []),
  (123, .aload_n 0, 124, 0, []),
  (124, .getfield 15, 127, 1, []),
  (127, .iload_n 3, 128, 3, []),
  (128, .iaload, 129, 0, []),
  (129, .iload_n 2, 130, 2, []),
  (130, .invokestatic 52, 133, 0, []),
  (133, .ifCond .eq 7, 136, 140, []),
  (136, .iconst (-1), 137, 0, [((-1), 0)]),
  (137, .goto 4, 140, 141, []),
  (140, .iconst 0, 141, 0, [(0, 0)]),
  (141, .ireturn, 142, 0, [])]
def m_Sets_surely : MI := (⟨"HandOverHorse$Sets", "surely", "(LHandOverHorse$Wall;II)I"⟩, prog_7_method_7_code, 7, (some .int), p_Sets_surely, 9)
def p_Sets_lossOf : List PE := [(0, .aload_n 0, 1, 0, []),
  (1, .getfield 15, 4, 1, []),
  (4, .iload_n 1, 5, 1, []),
  (5, .iaload, 6, 0, []),
  (6, .iload_n 2, 7, 2, []),
  (7, .iconst (-1), 8, 0, [((-1), 0)]),
  (8, .ixor, 9, 0, []),
  (9, .iand, 10, 0, []),
  (10, .istore_n 3, 11, 3, []),
  (11, .iconst 0, 12, 0, [(0, 0)]),
  (12, .istore 4, 14, 4, []),
  (14, .iconst 0, 15, 0, [(0, 0)]),
  (15, .istore 5, 17, 5, []),
  (17, .iload 5, 19, 5, []),
  (19, .bipush 8, 21, 0, [(8, 0)]),
  (21, .if_icmp .ge 42, 24, 63, []),
  (24, .iload_n 3, 25, 3, []),
  (25, .iload 5, 27, 5, []),
  (27, .ishr, 28, 0, []),
  (28, .ifCond .eq 35, 31, 63, []),
  (31, .iload_n 3, 32, 3, []),
  (32, .iload 5, 34, 5, []),
  (34, .invokestatic 52, 37, 0, []),
  (37, .ifCond .eq 20, 40, 57, []),
  (40, .iload 4, 42, 4, []),
  (42, .aload_n 0, 43, 0, []),
  (43, .getfield 21, 46, 3, []),
  (46, .iload_n 1, 47, 1, []),
  (47, .bipush 8, 49, 0, [(8, 0)]),
  (49, .imul, 50, 0, []),
  (50, .iload 5, 52, 5, []),
  (52, .iadd, 53, 0, []),
  (53, .iaload, 54, 0, []),
  (54, .iadd, 55, 0, []),
  (55, .istore 4, 57, 4, []),
  (57, .iinc 5 1, 60, 5, [(1, 0)]),
  (60, .goto (-43), 63, 17, []),
  (63, .iload 4, 65, 4, []),
  (65, .ireturn, 66, 0, [])]
def m_Sets_lossOf : MI := (⟨"HandOverHorse$Sets", "lossOf", "(II)I"⟩, prog_7_method_8_code, 6, (some .int), p_Sets_lossOf, 9)
def p_Sets_findLosses : List PE := [(0, .aload_n 0, 1, 0, []),
  (1, .aload_n 1, 2, 1, []),
  (2, .invokevirtual 56, 5, 0, []),
  (5, .iconst 0, 6, 0, [(0, 0)]),
  (6, .istore_n 2, 7, 2, []),
  (7, .iload_n 2, 8, 2, []),
  (8, .aload_n 0, 9, 0, []),
  (9, .getfield 21, 12, 3, []),
  (12, .arraylength, 13, 0, []),
  (13, .if_icmp .ge 16, 16, 29, []),
  (16, .aload_n 0, 17, 0, []),
  (17, .getfield 21, 20, 3, []),
  (20, .iload_n 2, 21, 2, []),
  (21, .iconst 0, 22, 0, [(0, 0)]),
  (22, .iastore, 23, 0, []),
  (23, .iinc 2 1, 26, 2, [(1, 0)]),
  (26, .goto (-19), 29, 7, []),
  (29, .iconst 0, 30, 0, [(0, 0)]),
  (30, .istore_n 2, 31, 2, []),
  (31, .iload_n 2, 32, 2, []),
  (32, .aload_n 1, 33, 1, []),
  (33, .getfield 43, 36, 5, []),
  (36, .if_icmp .ge 38, 39, 74, []),
  (39, .aload_n 0, 40, 0, []),
  (40, .getfield 21, 43, 3, []),
  (43, .aload_n 1, 44, 1, []),
  (44, .getfield 46, 47, 2, []),
  (47, .iload_n 2, 48, 2, []),
  (48, .iaload, 49, 0, []),
  (49, .bipush 8, 51, 0, [(8, 0)]),
  (51, .imul, 52, 0, []),
  (52, .aload_n 1, 53, 1, []),
  (53, .getfield 49, 56, 3, []),
  (56, .iload_n 2, 57, 2, []),
  (57, .iaload, 58, 0, []),
  (58, .iadd, 59, 0, []),
  (59, .dup2, 60, 0, []),
  (60, .iaload, 61, 0, []),
  (61, .aload_n 1, 62, 1, []),
  (62, .iload_n 2, 63, 2, []),
  (63, .invokevirtual 68, 66, 0, []),
  (66, .iadd, 67, 0, []),
  (67, .iastore, 68, 0, []),
  (68, .iinc 2 1, 71, 2, [(1, 0)]),
  (71, .goto (-40), 74, 31, []),
  (74, .return_, 75, 0, [])]
def m_Sets_findLosses : MI := (⟨"HandOverHorse$Sets", "findLosses", "(LHandOverHorse$Wall;)V"⟩, prog_7_method_9_code, 3, none, p_Sets_findLosses, 9)
def p_Sets_findBestOrder : List PE := [(0, .aload_n 0, 1, 0, []),
  (1, .aload_n 1, 2, 1, []),
  (2, .invokevirtual 72, 5, 0, []),
  (5, .aload_n 1, 6, 1, []),
  (6, .getfield 37, 9, 1, []),
  (9, .istore_n 2, 10, 2, []),
  (10, .aload_n 1, 11, 1, []),
  (11, .invokestatic 60, 14, 0, []),
  (14, .istore_n 3, 15, 3, []),
  (15, .aload_n 0, 16, 0, []),
  (16, .getfield 30, 19, 6, []),
  (19, .iload_n 3, 20, 3, []),
  (20, .iconst 0, 21, 0, [(0, 0)]),
  (21, .iastore, 22, 0, []),
  (22, .iload_n 3, 23, 3, []),
  (23, .iconst 1, 24, 0, [(1, 0)]),
  (24, .isub, 25, 0, []),
  (25, .istore 4, 27, 4, []),
  (27, .iload 4, 29, 4, []),
  (29, .ifCond .lt 81, 32, 110, []),
  (32, .aload_n 0, 33, 0, []),
  (33, .getfield 30, 36, 6, []),
  (36, .iload 4, 38, 4, []),
  (38, .ldc 75, 40, 908, [(1000000, 0)]),
  (40, .iastore, 41, 0, []),
  (41, .iconst 0, 42, 0, [(0, 0)]),
  (42, .istore 5, 44, 5, []),
  (44, .iload 5, 46, 5, []),
  (46, .iload_n 2, 47, 2, []),
  (47, .if_icmp .ge 57, 50, 104, []),
  (50, .iload 4, 52, 4, []),
  (52, .iload 5, 54, 5, []),
  (54, .invokestatic 52, 57, 0, []),
  (57, .ifCond .ne 41, 60, 98, []),
  (60, .aload_n 0, 61, 0, []),
  (61, .getfield 30, 64, 6, []),
  (64, .iload 4, 66, 4, []),
  (66, .aload_n 0, 67, 0, []),
  (67, .getfield 30, 70, 6, []),
  (70, .iload 4, 72, 4, []),
  (72, .iaload, 73, 0, []),
  (73, .aload_n 0, 74, 0, []),
  (74, .iload 5, 76, 5, []),
  (76, .iload 4, 78, 4, []),
  (78, .invokevirtual 76, 81, 0, []),
  (81, .aload_n 0, 82, 0, []),
  (82, .getfield 30, 85, 6, []),
  (85, .iload 4, 87, 4, []),
  (87, .iconst 1, 88, 0, [(1, 0)]),
  (88, .iload 5, 90, 5, []),
  (90, .ishl, 91, 0, []),
  (91, .ior, 92, 0, []),
  (92, .iaload, 93, 0, []),
  (93, .iadd, 94, 0, []),
  (94, .invokestatic 79, 97, 0, []),
  (97, .iastore, 98, 0, []),
  (98, .iinc 5 1, 101, 5, [(1, 0)]),
  (101, .goto (-57), 104, 44, []),
  (104, .iinc 4 (-1), 107, 4, [((-1), 0)]),
  (107, .goto (-80), 110, 27, []),
  (110, .iconst 0, 111, 0, [(0, 0)]),
  (111, .istore 4, 113, 4, []),
  (113, .iconst 0, 114, 0, [(0, 0)]),
  (114, .istore 5, 116, 5, []),
  (116, .iload 5, 118, 5, []),
  (118, .iload_n 2, 119, 2, []),
  (119, .if_icmp .ge 37, 122, 156, []),
  (122, .aload_n 0, 123, 0, []),
  (123, .getfield 9, 126, 0, []),
  (126, .iload 5, 128, 5, []),
  (128, .aload_n 0, 129, 0, []),
  (129, .iload 4, 131, 4, []),
  (131, .iload_n 2, 132, 2, []),
  (132, .invokevirtual 84, 135, 0, []),
  (135, .iastore, 136, 0, []),
  (136, .iload 4, 138, 4, []),
  (138, .iconst 1, 139, 0, [(1, 0)]),
  (139, .aload_n 0, 140, 0, []),
  (140, .getfield 9, 143, 0, []),
  (143, .iload 5, 145, 5, []),
  (145, .iaload, 146, 0, []),
  (146, .ishl, 147, 0, []),
  (147, .ior, 148, 0, []),
  (148, .istore 4, 150, 4, []),
  (150, .iinc 5 1, 153, 5, [(1, 0)]),
  (153, .goto (-37), 156, 116, []),
  (156, .return_, 157, 0, [])]
def m_Sets_findBestOrder : MI := (⟨"HandOverHorse$Sets", "findBestOrder", "(LHandOverHorse$Wall;)V"⟩, prog_7_method_10_code, 6, none, p_Sets_findBestOrder, 9)
def p_Sets_firstOfBest : List PE := [(0, .iconst 0, 1, 0, [(0, 0)]),
  (1, .istore_n 3, 2, 3, []),
  (2, .iload_n 3, 3, 3, []),
  (3, .iload_n 2, 4, 2, []),
  (4, .if_icmp .ge 45, 7, 49, []),
  (7, .iload_n 1, 8, 1, []),
  (8, .iload_n 3, 9, 3, []),
  (9, .invokestatic 52, 12, 0, []),
  (12, .ifCond .ne 31, 15, 43, []),
  (15, .aload_n 0, 16, 0, []),
  (16, .iload_n 3, 17, 3, []),
  (17, .iload_n 1, 18, 1, []),
  (18, .invokevirtual 76, 21, 0, []),
  (21, .aload_n 0, 22, 0, []),
  (22, .getfield 30, 25, 6, []),
  (25, .iload_n 1, 26, 1, []),
  (26, .iconst 1, 27, 0, [(1, 0)]),
  (27, .iload_n 3, 28, 3, []),
  (28, .ishl, 29, 0, []),
  (29, .ior, 30, 0, []),
  (30, .iaload, 31, 0, []),
  (31, .iadd, 32, 0, []),
  (32, .aload_n 0, 33, 0, []),
  (33, .getfield 30, 36, 6, []),
  (36, .iload_n 1, 37, 1, []),
  (37, .iaload, 38, 0, []),
  (38, .if_icmp .ne 5, 41, 43, []),
  (41, .iload_n 3, 42, 3, []),
  (42, .ireturn, 43, 0, []),
  (43, .iinc 3 1, 46, 3, [(1, 0)]),
  (46, .goto (-44), 49, 2, []),
  (49, .iconst 0, 50, 0, [(0, 0)]),
  (50, .ireturn, 51, 0, [])]
def m_Sets_firstOfBest : MI := (⟨"HandOverHorse$Sets", "firstOfBest", "(II)I"⟩, prog_7_method_11_code, 4, (some .int), p_Sets_firstOfBest, 9)
def p_Sets_leastLoss : List PE := [(0, .aload_n 0, 1, 0, []),
  (1, .getfield 30, 4, 6, []),
  (4, .iconst 0, 5, 0, [(0, 0)]),
  (5, .iaload, 6, 0, []),
  (6, .ireturn, 7, 0, [])]
def m_Sets_leastLoss : MI := (⟨"HandOverHorse$Sets", "leastLoss", "()I"⟩, prog_7_method_12_code, 1, (some .int), p_Sets_leastLoss, 9)
def p_Sets_looksNotHeld : List PE := [(0, .iconst 0, 1, 0, [(0, 0)]),
  (1, .istore_n 2, 2, 2, []),
  (2, .iconst 0, 3, 0, [(0, 0)]),
  (3, .istore_n 3, 4, 3, []),
  (4, .iconst 0, 5, 0, [(0, 0)]),
  (5, .istore 4, 7, 4, []),
  (7, .iload 4, 9, 4, []),
  (9, .aload_n 1, 10, 1, []),
  (10, .getfield 37, 13, 1, []),
  (13, .if_icmp .ge 77, 16, 90, []),
  (16, .iconst 0, 17, 0, [(0, 0)]),
  (17, .istore 5, 19, 5, []),
  (19, .iload 5, 21, 5, []),
  (21, .aload_n 1, 22, 1, []),
  (22, .getfield 43, 25, 5, []),
  (25, .if_icmp .ge 47, 28, 72, []),
  (28, .aload_n 1, 29, 1, []),
  (29, .getfield 46, 32, 2, []),
  (32, .iload 5, 34, 5, []),
  (34, .iaload, 35, 0, []),
  (35, .aload_n 0, 36, 0, []),
  (36, .getfield 9, 39, 0, []),
  (39, .iload 4, 41, 4, []),
  (41, .iaload, 42, 0, []),
  (42, .if_icmp .ne 24, 45, 66, []),
  (45, .iload_n 3, 46, 3, []),
  (46, .aload_n 1, 47, 1, []),
  (47, .getfield 49, 50, 3, []),
  (50, .iload 5, 52, 5, []),
  (52, .iaload, 53, 0, []),
  (53, .invokestatic 52, 56, 0, []),
  (56, .ifCond .ne 10, 59, 66, []),
  (59, .iload_n 2, 60, 2, []),
  (60, .iconst 1, 61, 0, [(1, 0)]),
  (61, .iload 5, 63, 5, []),
  (63, .ishl, 64, 0, []),
  (64, .ior, 65, 0, []),
  (65, .istore_n 2, 66, 2, []),
  (66, .iinc 5 1, 69, 5, [(1, 0)]),
  (69, .goto (-50), 72, 19, []),
  (72, .iload_n 3, 73, 3, []),
  (73, .iconst 1, 74, 0, [(1, 0)]),
  (74, .aload_n 0, 75, 0, []),
  (75, .getfield 9, 78, 0, []),
  (78, .iload 4, 80, 4, []),
  (80, .iaload, 81, 0, []),
  (81, .ishl, 82, 0, []),
  (82, .ior, 83, 0, []),
  (83, .istore_n 3, 84, 3, []),
  (84, .iinc 4 1, 87, 4, [(1, 0)]),
  (87, .goto (-80), 90, 7, []),
  (90, .iload_n 2, 91, 2, []),
  (91, .ireturn, 92, 0, [])]
def m_Sets_looksNotHeld : MI := (⟨"HandOverHorse$Sets", "looksNotHeld", "(LHandOverHorse$Wall;)I"⟩, prog_7_method_13_code, 6, (some .int), p_Sets_looksNotHeld, 9)
def p_Sets_findBeasts : List PE := [(0, .iconst 0, 1, 0, [(0, 0)]),
  (1, .istore_n 2, 2, 2, []),
  (2, .iload_n 2, 3, 2, []),
  (3, .aload_n 1, 4, 1, []),
  (4, .getfield 37, 7, 1, []),
  (7, .if_icmp .ge 58, 10, 65, []),
  (10, .aload_n 0, 11, 0, []),
  (11, .getfield 18, 14, 2, []),
  (14, .iload_n 2, 15, 2, []),
  (15, .iconst 0, 16, 0, [(0, 0)]),
  (16, .iastore, 17, 0, []),
  (17, .iconst 0, 18, 0, [(0, 0)]),
  (18, .istore_n 3, 19, 3, []),
  (19, .iload_n 3, 20, 3, []),
  (20, .aload_n 1, 21, 1, []),
  (21, .getfield 37, 24, 1, []),
  (24, .if_icmp .ge 35, 27, 59, []),
  (27, .iload_n 2, 28, 2, []),
  (28, .iload_n 3, 29, 3, []),
  (29, .if_icmp .eq 24, 32, 53, []),
  (32, .aload_n 1, 33, 1, []),
  (33, .iload_n 2, 34, 2, []),
  (34, .iload_n 3, 35, 3, []),
  (35, .invokevirtual 87, 38, 0, []),
  (38, .ifCond .eq 15, 41, 53, []),
  (41, .aload_n 0, 42, 0, []),
  (42, .getfield 18, 45, 2, []),
  (45, .iload_n 2, 46, 2, []),
  (46, .dup2, 47, 0, []),
  (47, .iaload, 48, 0, []),
  (48, .iconst 1, 49, 0, [(1, 0)]),
  (49, .iload_n 3, 50, 3, []),
  (50, .ishl, 51, 0, []),
  (51, .ior, 52, 0, []),
  (52, .iastore, 53, 0, []),
  (53, .iinc 3 1, 56, 3, [(1, 0)]),
  (56, .goto (-37), 59, 19, []),
  (59, .iinc 2 1, 62, 2, [(1, 0)]),
  (62, .goto (-60), 65, 2, []),
  (65, .aload_n 1, 66, 1, []),
  (66, .invokestatic 60, 69, 0, []),
  (69, .istore_n 2, 70, 2, []),
  (70, .aload_n 0, 71, 0, []),
  (71, .getfield 33, 74, 7, []),
  (74, .iconst 0, 75, 0, [(0, 0)]),
  (75, .iconst 1, 76, 0, [(1, 0)]),
  (76, .bastore, 77, 0, []),
  (77, .iconst 1, 78, 0, [(1, 0)]),
  (78, .istore_n 3, 79, 3, []),
  (79, .iload_n 3, 80, 3, []),
  (80, .iload_n 2, 81, 2, []),
  (81, .if_icmp .gt 54, 84, 135, []),
  (84, .iload_n 3, 85, 3, []),
  (85, .iload_n 3, 86, 3, []),
  (86, .iconst 1, 87, 0, [(1, 0)]),
  (87, .isub, 88, 0, []),
  (88, .iand, 89, 0, []),
  (89, .istore 4, 91, 4, []),
  (91, .aload_n 0, 92, 0, []),
  (92, .getfield 33, 95, 7, []),
  (95, .iload_n 3, 96, 3, []),
  (96, .aload_n 0, 97, 0, []),
  (97, .getfield 33, 100, 7, []),
  (100, .iload 4, 102, 4, []),
  (102, .baload, 103, 0, []),
  (103, .ifCond .eq 24, 106, 127, []),
  (106, .iload 4, 108, 4, []),
  (108, .aload_n 0, 109, 0, []),
  (109, .getfield 18, 112, 2, []),
  (112, .iload_n 3, 113, 3, []),
  (113, .invokestatic 90, 116, 0, []),
  (116, .iaload, 117, 0, []),
  (117, .iconst (-1), 118, 0, [((-1), 0)]),
  (118, .ixor, 119, 0, []),
  (119, .iand, 120, 0, []),
  (120, .ifCond .ne 7, 123, 127, []),
  (123, .iconst 1, 124, 0, [(1, 0)]),
  (124, .goto 4, 127, 128, []),
  (127, .iconst 0, 128, 0, [(0, 0)]),
  (128, .bastore, 129, 0, []),
  (129, .iinc 3 1, 132, 3, [(1, 0)]),
  (132, .goto (-53), 135, 79, []),
  (135, .return_, 136, 0, [])]
def m_Sets_findBeasts : MI := (⟨"HandOverHorse$Sets", "findBeasts", "(LHandOverHorse$Wall;)V"⟩, prog_7_method_14_code, 5, none, p_Sets_findBeasts, 9)
def p_Sets_lowestOf : List PE := [(0, .iconst 0, 1, 0, [(0, 0)]),
  (1, .istore_n 1, 2, 1, []),
  (2, .iload_n 1, 3, 1, []),
  (3, .bipush 8, 5, 0, [(8, 0)]),
  (5, .if_icmp .ge 19, 8, 24, []),
  (8, .iload_n 0, 9, 0, []),
  (9, .iload_n 1, 10, 1, []),
  (10, .invokestatic 52, 13, 0, []),
  (13, .ifCond .eq 5, 16, 18, []),
  (16, .iload_n 1, 17, 1, []),
  (17, .ireturn, 18, 0, []),
  (18, .iinc 1 1, 21, 1, [(1, 0)]),
  (21, .goto (-19), 24, 2, []),
  (24, .iconst 0, 25, 0, [(0, 0)]),
  (25, .ireturn, 26, 0, [])]
def m_Sets_lowestOf : MI := (⟨"HandOverHorse$Sets", "lowestOf", "(I)I"⟩, prog_7_method_15_code, 2, (some .int), p_Sets_lowestOf, 9)
def p_Sets_findJoinings : List PE := [(0, .aload_n 0, 1, 0, []),
  (1, .aload_n 1, 2, 1, []),
  (2, .invokevirtual 93, 5, 0, []),
  (5, .aload_n 1, 6, 1, []),
  (6, .invokestatic 60, 9, 0, []),
  (9, .istore_n 2, 10, 2, []),
  (10, .aload_n 0, 11, 0, []),
  (11, .getfield 27, 14, 5, []),
  (14, .iconst 0, 15, 0, [(0, 0)]),
  (15, .iconst 1, 16, 0, [(1, 0)]),
  (16, .iastore, 17, 0, []),
  (17, .aload_n 0, 18, 0, []),
  (18, .getfield 30, 21, 6, []),
  (21, .iconst 0, 22, 0, [(0, 0)]),
  (22, .iconst 0, 23, 0, [(0, 0)]),
  (23, .iastore, 24, 0, []),
  (24, .iconst 1, 25, 0, [(1, 0)]),
  (25, .istore_n 3, 26, 3, []),
  (26, .iload_n 3, 27, 3, []),
  (27, .iload_n 2, 28, 2, []),
  (28, .if_icmp .gt 137, 31, 165, []),
  (31, .aload_n 0, 32, 0, []),
  (32, .getfield 27, 35, 5, []),
  (35, .iload_n 3, 36, 3, []),
  (36, .iconst 0, 37, 0, [(0, 0)]),
  (37, .iastore, 38, 0, []),
  (38, .aload_n 0, 39, 0, []),
  (39, .getfield 30, 42, 6, []),
  (42, .iload_n 3, 43, 3, []),
  (43, .ldc 75, 45, 908, [(1000000, 0)]),
  (45, .iastore, 46, 0, []),
  (46, .iload_n 3, 47, 3, []),
  (47, .invokestatic 90, 50, 0, []),
  (50, .istore 4, 52, 4, []),
  (52, .iload_n 3, 53, 3, []),
  (53, .aload_n 0, 54, 0, []),
  (54, .getfield 18, 57, 2, []),
  (57, .iload 4, 59, 4, []),
  (59, .iaload, 60, 0, []),
  (60, .iand, 61, 0, []),
  (61, .istore 5, 63, 5, []),
  (63, .iload 5, 65, 5, []),
  (65, .istore 6, 67, 6, []),
  (67, .iconst 1, 68, 0, [(1, 0)]),
  (68, .iload 5, 70, 5, []),
  (70, .invokestatic 96, 73, 0, []),
  (73, .ishl, 74, 0, []),
  (74, .istore 7, 76, 7, []),
  (76, .iload 7, 78, 7, []),
  (78, .ifCond .le 81, 81, 159, []),
  (81, .aload_n 0, 82, 0, []),
  (82, .getfield 33, 85, 7, []),
  (85, .iload 6, 87, 6, []),
  (87, .baload, 88, 0, []),
  (88, .ifCond .eq 56, 91, 144, []),
  (91, .iload_n 3, 92, 3, []),
  (92, .iload 6, 94, 6, []),
  (94, .iconst 1, 95, 0, [(1, 0)]),
  (95, .iload 4, 97, 4, []),
  (97, .ishl, 98, 0, []),
  (98, .ior, 99, 0, []),
  (99, .iconst (-1), 100, 0, [((-1), 0)]),
  (100, .ixor, 101, 0, []),
  (101, .iand, 102, 0, []),
  (102, .istore 8, 104, 8, []),
  (104, .aload_n 0, 105, 0, []),
  (105, .getfield 27, 108, 5, []),
  (108, .iload_n 3, 109, 3, []),
  (109, .dup2, 110, 0, []),
  (110, .iaload, 111, 0, []),
  (111, .aload_n 0, 112, 0, []),
  (112, .getfield 27, 115, 5, []),
  (115, .iload 8, 117, 8, []),
  (117, .iaload, 118, 0, []),
  (118, .iadd, 119, 0, []),
  (119, .iastore, 120, 0, []),
  (120, .aload_n 0, 121, 0, []),
  (121, .getfield 30, 124, 6, []),
  (124, .iload_n 3, 125, 3, []),
  (125, .aload_n 0, 126, 0, []),
  (126, .getfield 30, 129, 6, []),
  (129, .iload_n 3, 130, 3, []),
  (130, .iaload, 131, 0, []),
  (131, .aload_n 0, 132, 0, []),
  (132, .getfield 30, 135, 6, []),
  (135, .iload 8, 137, 8, []),
  (137, .iaload, 138, 0, []),
  (138, .iconst 1, 139, 0, [(1, 0)]),
  (139, .iadd, 140, 0, []),
  (140, .invokestatic 79, 143, 0, []),
  (143, .iastore, 144, 0, []),
  (144, .iload 6, 146, 6, []),
  (146, .iconst 1, 147, 0, [(1, 0)]),
  (147, .isub, 148, 0, []),
  (148, .iload 5, 150, 5, []),
  (150, .iand, 151, 0, []),
  (151, .istore 6, 153, 6, []),
  (153, .iinc 7 (-1), 156, 7, [((-1), 0)]),
  (156, .goto (-80), 159, 76, []),
  (159, .iinc 3 1, 162, 3, [(1, 0)]),
  (162, .goto (-136), 165, 26, []),
  (165, .return_, 166, 0, [])]
def m_Sets_findJoinings : MI := (⟨"HandOverHorse$Sets", "findJoinings", "(LHandOverHorse$Wall;)V"⟩, prog_7_method_16_code, 9, none, p_Sets_findJoinings, 9)
def p_Sets_joiningCount : List PE := [(0, .aload_n 0, 1, 0, []),
  (1, .getfield 27, 4, 5, []),
  (4, .aload_n 1, 5, 1, []),
  (5, .invokestatic 60, 8, 0, []),
  (8, .iaload, 9, 0, []),
  (9, .ireturn, 10, 0, [])]
def m_Sets_joiningCount : MI := (⟨"HandOverHorse$Sets", "joiningCount", "(LHandOverHorse$Wall;)I"⟩, prog_7_method_17_code, 2, (some .int), p_Sets_joiningCount, 9)
def p_Sets_fewestBeasts : List PE := [(0, .aload_n 0, 1, 0, []),
  (1, .getfield 30, 4, 6, []),
  (4, .aload_n 1, 5, 1, []),
  (5, .invokestatic 60, 8, 0, []),
  (8, .iaload, 9, 0, []),
  (9, .ireturn, 10, 0, [])]
def m_Sets_fewestBeasts : MI := (⟨"HandOverHorse$Sets", "fewestBeasts", "(LHandOverHorse$Wall;)I"⟩, prog_7_method_18_code, 2, (some .int), p_Sets_fewestBeasts, 9)
def p_Sets_findTimes : List PE := [(0, .aload_n 0, 1, 0, []),
  (1, .aload_n 1, 2, 1, []),
  (2, .invokevirtual 56, 5, 0, []),
  (5, .aload_n 0, 6, 0, []),
  (6, .aload_n 1, 7, 1, []),
  (7, .invokevirtual 101, 10, 0, []),
  (10, .aload_n 1, 11, 1, []),
  (11, .invokestatic 60, 14, 0, []),
  (14, .istore_n 2, 15, 2, []),
  (15, .aload_n 0, 16, 0, []),
  (16, .getfield 30, 19, 6, []),
  (19, .iload_n 2, 20, 2, []),
  (20, .iconst 0, 21, 0, [(0, 0)]),
  (21, .iastore, 22, 0, []),
  (22, .iload_n 2, 23, 2, []),
  (23, .iconst 1, 24, 0, [(1, 0)]),
  (24, .isub, 25, 0, []),
  (25, .istore_n 3, 26, 3, []),
  (26, .iload_n 3, 27, 3, []),
  (27, .ifCond .lt 86, 30, 113, []),
  (30, .aload_n 0, 31, 0, []),
  (31, .iload_n 3, 32, 3, []),
  (32, .aload_n 1, 33, 1, []),
  (33, .getfield 37, 36, 1, []),
  (36, .invokevirtual 64, 39, 0, []),
  (39, .istore 4, 41, 4, []),
  (41, .aload_n 0, 42, 0, []),
  (42, .getfield 30, 45, 6, []),
  (45, .iload_n 3, 46, 3, []),
  (46, .ldc 75, 48, 908, [(1000000, 0)]),
  (48, .iastore, 49, 0, []),
  (49, .iconst 0, 50, 0, [(0, 0)]),
  (50, .istore 5, 52, 5, []),
  (52, .iload 5, 54, 5, []),
  (54, .iconst 4, 55, 0, [(4, 0)]),
  (55, .if_icmp .ge 52, 58, 107, []),
  (58, .iload 4, 60, 4, []),
  (60, .aload_n 0, 61, 0, []),
  (61, .getfield 24, 64, 4, []),
  (64, .iload 5, 66, 5, []),
  (66, .iaload, 67, 0, []),
  (67, .iand, 68, 0, []),
  (68, .istore 6, 70, 6, []),
  (70, .iload 6, 72, 6, []),
  (72, .ifCond .eq 29, 75, 101, []),
  (75, .aload_n 0, 76, 0, []),
  (76, .getfield 30, 79, 6, []),
  (79, .iload_n 3, 80, 3, []),
  (80, .aload_n 0, 81, 0, []),
  (81, .getfield 30, 84, 6, []),
  (84, .iload_n 3, 85, 3, []),
  (85, .iaload, 86, 0, []),
  (86, .aload_n 0, 87, 0, []),
  (87, .getfield 30, 90, 6, []),
  (90, .iload_n 3, 91, 3, []),
  (91, .iload 6, 93, 6, []),
  (93, .ior, 94, 0, []),
  (94, .iaload, 95, 0, []),
  (95, .iconst 1, 96, 0, [(1, 0)]),
  (96, .iadd, 97, 0, []),
  (97, .invokestatic 79, 100, 0, []),
  (100, .iastore, 101, 0, []),
  (101, .iinc 5 1, 104, 5, [(1, 0)]),
  (104, .goto (-52), 107, 52, []),
  (107, .iinc 3 (-1), 110, 3, [((-1), 0)]),
  (110, .goto (-84), 113, 26, []),
  (113, .aload_n 0, 114, 0, []),
  (114, .getfield 30, 117, 6, []),
  (117, .iconst 0, 118, 0, [(0, 0)]),
  (118, .iaload, 119, 0, []),
  (119, .ldc 75, 121, 908, [(1000000, 0)]),
  (121, .if_icmp .ge 7, 124, 128, []),
  (124, .iconst 1, 125, 0, [(1, 0)]),
  (125, .goto 4, 128, 129, []),
  (128, .iconst 0, 129, 0, [(0, 0)]),
  (129, .ireturn, 130, 0, [])]
def m_Sets_findTimes : MI := (⟨"HandOverHorse$Sets", "findTimes", "(LHandOverHorse$Wall;)Z"⟩, prog_7_method_19_code, 7, (some .boolean), p_Sets_findTimes, 9)
def p_Sets_findAlike : List PE := [(0, .iconst 0, 1, 0, [(0, 0)]),
  (1, .istore_n 2, 2, 2, []),
  (2, .iload_n 2, 3, 2, []),
  (3, .iconst 4, 4, 0, [(4, 0)]),
  (4, .if_icmp .ge 16, 7, 20, []),
  (7, .aload_n 0, 8, 0, []),
  (8, .getfield 24, 11, 4, []),
  (11, .iload_n 2, 12, 2, []),
  (12, .iconst 0, 13, 0, [(0, 0)]),
  (13, .iastore, 14, 0, []),
  (14, .iinc 2 1, 17, 2, [(1, 0)]),
  (17, .goto (-15), 20, 2, []),
  (20, .iconst 0, 21, 0, [(0, 0)]),
  (21, .istore_n 2, 22, 2, []),
  (22, .iload_n 2, 23, 2, []),
  (23, .aload_n 1, 24, 1, []),
  (24, .getfield 37, 27, 1, []),
  (27, .if_icmp .ge 29, 30, 56, []),
  (30, .aload_n 0, 31, 0, []),
  (31, .getfield 24, 34, 4, []),
  (34, .aload_n 1, 35, 1, []),
  (35, .getfield 104, 38, 0, []),
  (38, .iload_n 2, 39, 2, []),
  (39, .aaload, 40, 0, []),
  (40, .invokevirtual 108, 43, 0, []),
  (43, .dup2, 44, 0, []),
  (44, .iaload, 45, 0, []),
  (45, .iconst 1, 46, 0, [(1, 0)]),
  (46, .iload_n 2, 47, 2, []),
  (47, .ishl, 48, 0, []),
  (48, .ior, 49, 0, []),
  (49, .iastore, 50, 0, []),
  (50, .iinc 2 1, 53, 2, [(1, 0)]),
  (53, .goto (-31), 56, 22, []),
  (56, .return_, 57, 0, [])]
def m_Sets_findAlike : MI := (⟨"HandOverHorse$Sets", "findAlike", "(LHandOverHorse$Wall;)V"⟩, prog_7_method_20_code, 3, none, p_Sets_findAlike, 9)
def p_Sets_fewestTimes : List PE := [(0, .aload_n 0, 1, 0, []),
  (1, .getfield 30, 4, 6, []),
  (4, .iconst 0, 5, 0, [(0, 0)]),
  (5, .iaload, 6, 0, []),
  (6, .ireturn, 7, 0, [])]
def m_Sets_fewestTimes : MI := (⟨"HandOverHorse$Sets", "fewestTimes", "()I"⟩, prog_7_method_21_code, 1, (some .int), p_Sets_fewestTimes, 9)
def p_Sets_firstTime : List PE := [(0, .aload_n 0, 1, 0, []),
  (1, .iconst 0, 2, 0, [(0, 0)]),
  (2, .aload_n 1, 3, 1, []),
  (3, .getfield 37, 6, 1, []),
  (6, .invokevirtual 64, 9, 0, []),
  (9, .istore_n 2, 10, 2, []),
  (10, .aload_n 1, 11, 1, []),
  (11, .invokestatic 60, 14, 0, []),
  (14, .istore_n 3, 15, 3, []),
  (15, .iconst 1, 16, 0, [(1, 0)]),
  (16, .istore 4, 18, 4, []),
  (18, .iload 4, 20, 4, []),
  (20, .iload_n 3, 21, 3, []),
  (21, .if_icmp .gt 48, 24, 69, []),
  (24, .iload 4, 26, 4, []),
  (26, .iload_n 2, 27, 2, []),
  (27, .iconst (-1), 28, 0, [((-1), 0)]),
  (28, .ixor, 29, 0, []),
  (29, .iand, 30, 0, []),
  (30, .ifCond .ne 33, 33, 63, []),
  (33, .aload_n 0, 34, 0, []),
  (34, .getfield 30, 37, 6, []),
  (37, .iload 4, 39, 4, []),
  (39, .iaload, 40, 0, []),
  (40, .iconst 1, 41, 0, [(1, 0)]),
  (41, .iadd, 42, 0, []),
  (42, .aload_n 0, 43, 0, []),
  (43, .getfield 30, 46, 6, []),
  (46, .iconst 0, 47, 0, [(0, 0)]),
  (47, .iaload, 48, 0, []),
  (48, .if_icmp .ne 15, 51, 63, []),
  (51, .aload_n 0, 52, 0, []),
  (52, .iload 4, 54, 4, []),
  (54, .invokevirtual 114, 57, 0, []),
  (57, .ifCond .eq 6, 60, 63, []),
  (60, .iload 4, 62, 4, []),
  (62, .ireturn, 63, 0, []),
  (63, .iinc 4 1, 66, 4, [(1, 0)]),
  (66, .goto (-48), 69, 18, []),
  (69, .iconst 0, 70, 0, [(0, 0)]),
  (70, .ireturn, 71, 0, [])]
def m_Sets_firstTime : MI := (⟨"HandOverHorse$Sets", "firstTime", "(LHandOverHorse$Wall;)I"⟩, prog_7_method_22_code, 5, (some .int), p_Sets_firstTime, 9)
def p_Sets_areAlike : List PE := [(0, .iconst 0, 1, 0, [(0, 0)]),
  (1, .istore_n 2, 2, 2, []),
  (2, .iload_n 2, 3, 2, []),
  (3, .iconst 4, 4, 0, [(4, 0)]),
  (4, .if_icmp .ge 24, 7, 28, []),
  (7, .iload_n 1, 8, 1, []),
  (8, .aload_n 0, 9, 0, []),
  (9, .getfield 24, 12, 4, []),
  (12, .iload_n 2, 13, 2, []),
  (13, .iaload, 14, 0, []),
  (14, .iconst (-1), 15, 0, [((-1), 0)]),
  (15, .ixor, 16, 0, []),
  (16, .iand, 17, 0, []),
  (17, .ifCond .ne 5, 20, 22, []),
  (20, .iconst 1, 21, 0, [(1, 0)]),
  (21, .ireturn, 22, 0, []),
  (22, .iinc 2 1, 25, 2, [(1, 0)]),
  (25, .goto (-23), 28, 2, []),
  (28, .iconst 0, 29, 0, [(0, 0)]),
  (29, .ireturn, 30, 0, [])]
def m_Sets_areAlike : MI := (⟨"HandOverHorse$Sets", "areAlike", "(I)Z"⟩, prog_7_method_23_code, 3, (some .boolean), p_Sets_areAlike, 9)
def p_Soot_init : List PE := [(0, .aload_n 0, 1, 0, []),
  (1, .invokespecial 1, 4, 0, []),
  (4, .return_, 5, 0, [])]
def m_Soot_init : MI := (⟨"HandOverHorse$Soot", "<init>", "()V"⟩, prog_8_method_1_code, 1, none, p_Soot_init, 5)
def p_Soot_kind : List PE := [(0, .iconst 5, 1, 0, [(5, 0)]),
  (1, .ireturn, 2, 0, [])]
def m_Soot_kind : MI := (⟨"HandOverHorse$Soot", "kind", "()I"⟩, prog_8_method_2_code, 1, (some .int), p_Soot_kind, 5)
def p_Soot_isOf : List PE := [(0, .iload_n 1, 1, 1, []),
  (1, .iconst 5, 2, 0, [(5, 0)]),
  (2, .if_icmp .eq 11, 5, 13, []),
  (5, .aload_n 0, 6, 0, []),
  (6, .iload_n 1, 7, 1, []),
  (7, .invokespecial 7, 10, 0, []),
  (10, .ifCond .eq 7, 13, 17, []),
  (13, .iconst 1, 14, 0, [(1, 0)]),
  (14, .goto 4, 17, 18, []),
  (17, .iconst 0, 18, 0, [(0, 0)]),
  (18, .ireturn, 19, 0, [])]
def m_Soot_isOf : MI := (⟨"HandOverHorse$Soot", "isOf", "(I)Z"⟩, prog_8_method_3_code, 2, (some .boolean), p_Soot_isOf, 5)
def p_Soot_early : List PE := [(0, .aload_n 0, 1, 0, []),
  (1, .invokespecial 11, 4, 0, []),
  (4, .aload_n 0, 5, 0, []),
  (5, .getfield 15, 8, 6, []),
  (8, .iadd, 9, 0, []),
  (9, .ireturn, 10, 0, [])]
def m_Soot_early : MI := (⟨"HandOverHorse$Soot", "early", "()I"⟩, prog_8_method_4_code, 1, (some .int), p_Soot_early, 5)
def p_Soot_late : List PE := [(0, .aload_n 0, 1, 0, []),
  (1, .invokespecial 21, 4, 0, []),
  (4, .aload_n 0, 5, 0, []),
  (5, .getfield 15, 8, 6, []),
  (8, .isub, 9, 0, []),
  (9, .ireturn, 10, 0, [])]
def m_Soot_late : MI := (⟨"HandOverHorse$Soot", "late", "()I"⟩, prog_8_method_5_code, 1, (some .int), p_Soot_late, 5)
def p_Soot_gap : List PE := [(0, .aload_n 0, 1, 0, []),
  (1, .invokespecial 24, 4, 0, []),
  (4, .iconst 1, 5, 0, [(1, 0)]),
  (5, .iadd, 6, 0, []),
  (6, .ireturn, 7, 0, [])]
def m_Soot_gap : MI := (⟨"HandOverHorse$Soot", "gap", "()I"⟩, prog_8_method_6_code, 1, (some .int), p_Soot_gap, 5)
def p_Soot_tells : List PE := [(0, .aload_n 1, 1, 1, []),
  (1, .bipush 60, 3, 0, [(60, 0)]),
  (3, .invokestatic 27, 6, 0, []),
  (6, .aload_n 0, 7, 0, []),
  (7, .aload_n 1, 8, 1, []),
  (8, .iload_n 2, 9, 2, []),
  (9, .invokespecial 31, 12, 0, []),
  (12, .aload_n 0, 13, 0, []),
  (13, .aload_n 1, 14, 1, []),
  (14, .iconst 2, 15, 0, [(2, 0)]),
  (15, .invokevirtual 35, 18, 0, []),
  (18, .isub, 19, 0, []),
  (19, .ireturn, 20, 0, [])]
def m_Soot_tells : MI := (⟨"HandOverHorse$Soot", "tells", "([II)I"⟩, prog_8_method_7_code, 3, (some .int), p_Soot_tells, 5)
def p_Spans_init : List PE := [(0, .aload_n 0, 1, 0, []),
  (1, .invokespecial 3, 4, 0, []),
  (4, .aload_n 0, 5, 0, []),
  (5, .bipush 8, 7, 0, [(8, 0)]),
  (7, .newarray .int, 9, 0, []),
  (9, .putfield 9, 12, 0, []),
  (12, .aload_n 0, 13, 0, []),
  (13, .bipush 8, 15, 0, [(8, 0)]),
  (15, .newarray .int, 17, 0, []),
  (17, .putfield 15, 20, 1, []),
  (20, .aload_n 0, 21, 0, []),
  (21, .bipush 8, 23, 0, [(8, 0)]),
  (23, .newarray .int, 25, 0, []),
  (25, .putfield 18, 28, 4, []),
  (28, .aload_n 0, 29, 0, []),
  (29, .bipush 8, 31, 0, [(8, 0)]),
  (31, .newarray .int, 33, 0, []),
  (33, .putfield 21, 36, 5, []),
  (36, .aload_n 0, 37, 0, []),
  (37, .bipush 8, 39, 0, [(8, 0)]),
  (39, .newarray .int, 41, 0, []),
  (41, .putfield 24, 44, 6, []),
  (44, .aload_n 0, 45, 0, []),
  (45, .bipush 8, 47, 0, [(8, 0)]),
  (47, .newarray .int, 49, 0, []),
  (49, .putfield 27, 52, 7, []),
  (52, .return_, 53, 0, [])]
def m_Spans_init : MI := (⟨"HandOverHorse$Spans", "<init>", "()V"⟩, prog_9_method_1_code, 1, none, p_Spans_init, 10)
def p_Spans_load : List PE := [(0, .iconst 0, 1, 0, [(0, 0)]),
  (1, .istore_n 2, 2, 2, []),
  (2, .iload_n 2, 3, 2, []),
  (3, .aload_n 1, 4, 1, []),
  (4, .getfield 30, 7, 1, []),
  (7, .if_icmp .ge 31, 10, 38, []),
  (10, .aload_n 0, 11, 0, []),
  (11, .getfield 18, 14, 4, []),
  (14, .iload_n 2, 15, 2, []),
  (15, .aload_n 1, 16, 1, []),
  (16, .iload_n 2, 17, 2, []),
  (17, .invokevirtual 36, 20, 0, []),
  (20, .iastore, 21, 0, []),
  (21, .aload_n 0, 22, 0, []),
  (22, .getfield 21, 25, 5, []),
  (25, .iload_n 2, 26, 2, []),
  (26, .aload_n 1, 27, 1, []),
  (27, .iload_n 2, 28, 2, []),
  (28, .invokevirtual 40, 31, 0, []),
  (31, .iastore, 32, 0, []),
  (32, .iinc 2 1, 35, 2, [(1, 0)]),
  (35, .goto (-33), 38, 2, []),
  (38, .return_, 39, 0, [])]
def m_Spans_load : MI := (⟨"HandOverHorse$Spans", "load", "(LHandOverHorse$Wall;)V"⟩, prog_9_method_2_code, 3, none, p_Spans_load, 10)
def p_Spans_settle : List PE := [(0, .iconst 0, 1, 0, [(0, 0)]),
  (1, .istore_n 2, 2, 2, []),
  (2, .iload_n 2, 3, 2, []),
  (3, .aload_n 1, 4, 1, []),
  (4, .getfield 30, 7, 1, []),
  (7, .if_icmp .ge 33, 10, 40, []),
  (10, .aload_n 0, 11, 0, []),
  (11, .getfield 9, 14, 0, []),
  (14, .iload_n 2, 15, 2, []),
  (15, .aload_n 0, 16, 0, []),
  (16, .getfield 18, 19, 4, []),
  (19, .iload_n 2, 20, 2, []),
  (20, .iaload, 21, 0, []),
  (21, .iastore, 22, 0, []),
  (22, .aload_n 0, 23, 0, []),
  (23, .getfield 15, 26, 1, []),
  (26, .iload_n 2, 27, 2, []),
  (27, .aload_n 0, 28, 0, []),
  (28, .getfield 21, 31, 5, []),
  (31, .iload_n 2, 32, 2, []),
  (32, .iaload, 33, 0, []),
  (33, .iastore, 34, 0, []),
  (34, .iinc 2 1, 37, 2, [(1, 0)]),
  (37, .goto (-35), 40, 2, []),
  (40, .aload_n 0, 41, 0, []),
  (41, .aload_n 1, 42, 1, []),
  (42, .invokevirtual 43, 45, 0, []),
  (45, .ifCond .ne 5, 48, 50, []),
  (48, .iconst 0, 49, 0, [(0, 0)]),
  (49, .ireturn, 50, 0, []),
  (50, .iconst 0, 51, 0, [(0, 0)]),
  (51, .istore_n 2, 52, 2, []),
  (52, .iload_n 2, 53, 2, []),
  (53, .aload_n 1, 54, 1, []),
  (54, .getfield 30, 57, 1, []),
  (57, .if_icmp .ge 26, 60, 83, []),
  (60, .aload_n 0, 61, 0, []),
  (61, .getfield 9, 64, 0, []),
  (64, .iload_n 2, 65, 2, []),
  (65, .iaload, 66, 0, []),
  (66, .aload_n 0, 67, 0, []),
  (67, .getfield 21, 70, 5, []),
  (70, .iload_n 2, 71, 2, []),
  (71, .iaload, 72, 0, []),
  (72, .if_icmp .le 5, 75, 77, []),
  (75, .iconst 0, 76, 0, [(0, 0)]),
  (76, .ireturn, 77, 0, []),
  (77, .iinc 2 1, 80, 2, [(1, 0)]),
  (80, .goto (-28), 83, 52, []),
  (83, .aload_n 0, 84, 0, []),
  (84, .aload_n 1, 85, 1, []),
  (85, .invokevirtual 47, 88, 0, []),
  (88, .iconst 1, 89, 0, [(1, 0)]),
  (89, .ireturn, 90, 0, [])]
def m_Spans_settle : MI := (⟨"HandOverHorse$Spans", "settle", "(LHandOverHorse$Wall;)Z"⟩, prog_9_method_3_code, 3, (some .boolean), p_Spans_settle, 10)
def p_Spans_pushUp : List PE := [(0, .aload_n 1, 1, 1, []),
  (1, .getfield 51, 4, 5, []),
  (4, .ifCond .le 7, 7, 11, []),
  (7, .iconst 1, 8, 0, [(1, 0)]),
  (8, .goto 4, 11, 12, []),
  (11, .iconst 0, 12, 0, [(0, 0)]),
  (12, .istore_n 2, 13, 2, []),
  (13, .iconst 0, 14, 0, [(0, 0)]),
  (14, .istore_n 3, 15, 3, []),
  (15, .iload_n 3, 16, 3, []),
  (16, .aload_n 1, 17, 1, []),
  (17, .getfield 30, 20, 1, []),
  (20, .if_icmp .ge 81, 23, 101, []),
  (23, .iload_n 2, 24, 2, []),
  (24, .ifCond .eq 77, 27, 101, []),
  (27, .iconst 0, 28, 0, [(0, 0)]),
  (28, .istore_n 2, 29, 2, []),
  (29, .iconst 0, 30, 0, [(0, 0)]),
  (30, .istore 4, 32, 4, []),
  (32, .iload 4, 34, 4, []),
  (34, .aload_n 1, 35, 1, []),
  (35, .getfield 51, 38, 5, []),
  (38, .if_icmp .ge 57, 41, 95, []),
  (41, .aload_n 1, 42, 1, []),
  (42, .getfield 54, 45, 2, []),
  (45, .iload 4, 47, 4, []),
  (47, .iaload, 48, 0, []),
  (48, .istore 5, 50, 5, []),
  (50, .aload_n 0, 51, 0, []),
  (51, .getfield 9, 54, 0, []),
  (54, .aload_n 1, 55, 1, []),
  (55, .getfield 57, 58, 3, []),
  (58, .iload 4, 60, 4, []),
  (60, .iaload, 61, 0, []),
  (61, .iaload, 62, 0, []),
  (62, .iconst 1, 63, 0, [(1, 0)]),
  (63, .iadd, 64, 0, []),
  (64, .istore 6, 66, 6, []),
  (66, .aload_n 0, 67, 0, []),
  (67, .getfield 9, 70, 0, []),
  (70, .iload 5, 72, 5, []),
  (72, .iaload, 73, 0, []),
  (73, .iload 6, 75, 6, []),
  (75, .if_icmp .ge 14, 78, 89, []),
  (78, .aload_n 0, 79, 0, []),
  (79, .getfield 9, 82, 0, []),
  (82, .iload 5, 84, 5, []),
  (84, .iload 6, 86, 6, []),
  (86, .iastore, 87, 0, []),
  (87, .iconst 1, 88, 0, [(1, 0)]),
  (88, .istore_n 2, 89, 2, []),
  (89, .iinc 4 1, 92, 4, [(1, 0)]),
  (92, .goto (-60), 95, 32, []),
  (95, .iinc 3 1, 98, 3, [(1, 0)]),
  (98, .goto (-83), 101, 15, []),
  (101, .iload_n 2, 102, 2, []),
  (102, .ifCond .ne 7, 105, 109, []),
  (105, .iconst 1, 106, 0, [(1, 0)]),
  (106, .goto 4, 109, 110, []),
  (109, .iconst 0, 110, 0, [(0, 0)]),
  (110, .ireturn, 111, 0, [])]
def m_Spans_pushUp : MI := (⟨"HandOverHorse$Spans", "pushUp", "(LHandOverHorse$Wall;)Z"⟩, prog_9_method_4_code, 7, (some .boolean), p_Spans_pushUp, 10)
def p_Spans_pushDown : List PE := [(0, .iconst 1, 1, 0, [(1, 0)]),
  (1, .istore_n 2, 2, 2, []),
  (2, .iconst 0, 3, 0, [(0, 0)]),
  (3, .istore_n 3, 4, 3, []),
  (4, .iload_n 3, 5, 3, []),
  (5, .aload_n 1, 6, 1, []),
  (6, .getfield 30, 9, 1, []),
  (9, .if_icmp .ge 81, 12, 90, []),
  (12, .iload_n 2, 13, 2, []),
  (13, .ifCond .eq 77, 16, 90, []),
  (16, .iconst 0, 17, 0, [(0, 0)]),
  (17, .istore_n 2, 18, 2, []),
  (18, .iconst 0, 19, 0, [(0, 0)]),
  (19, .istore 4, 21, 4, []),
  (21, .iload 4, 23, 4, []),
  (23, .aload_n 1, 24, 1, []),
  (24, .getfield 51, 27, 5, []),
  (27, .if_icmp .ge 57, 30, 84, []),
  (30, .aload_n 1, 31, 1, []),
  (31, .getfield 57, 34, 3, []),
  (34, .iload 4, 36, 4, []),
  (36, .iaload, 37, 0, []),
  (37, .istore 5, 39, 5, []),
  (39, .aload_n 0, 40, 0, []),
  (40, .getfield 15, 43, 1, []),
  (43, .aload_n 1, 44, 1, []),
  (44, .getfield 54, 47, 2, []),
  (47, .iload 4, 49, 4, []),
  (49, .iaload, 50, 0, []),
  (50, .iaload, 51, 0, []),
  (51, .iconst 1, 52, 0, [(1, 0)]),
  (52, .isub, 53, 0, []),
  (53, .istore 6, 55, 6, []),
  (55, .aload_n 0, 56, 0, []),
  (56, .getfield 15, 59, 1, []),
  (59, .iload 5, 61, 5, []),
  (61, .iaload, 62, 0, []),
  (62, .iload 6, 64, 6, []),
  (64, .if_icmp .le 14, 67, 78, []),
  (67, .aload_n 0, 68, 0, []),
  (68, .getfield 15, 71, 1, []),
  (71, .iload 5, 73, 5, []),
  (73, .iload 6, 75, 6, []),
  (75, .iastore, 76, 0, []),
  (76, .iconst 1, 77, 0, [(1, 0)]),
  (77, .istore_n 2, 78, 2, []),
  (78, .iinc 4 1, 81, 4, [(1, 0)]),
  (81, .goto (-60), 84, 21, []),
  (84, .iinc 3 1, 87, 3, [(1, 0)]),
  (87, .goto (-83), 90, 4, []),
  (90, .return_, 91, 0, [])]
def m_Spans_pushDown : MI := (⟨"HandOverHorse$Spans", "pushDown", "(LHandOverHorse$Wall;)V"⟩, prog_9_method_5_code, 7, none, p_Spans_pushDown, 10)
def p_Spans_widthByTest : List PE := [(0, .aload_n 0, 1, 0, []),
  (1, .getfield 18, 4, 4, []),
  (4, .iload_n 2, 5, 2, []),
  (5, .iaload, 6, 0, []),
  (6, .istore 4, 8, 4, []),
  (8, .aload_n 0, 9, 0, []),
  (9, .getfield 21, 12, 5, []),
  (12, .iload_n 2, 13, 2, []),
  (13, .iaload, 14, 0, []),
  (14, .istore 5, 16, 5, []),
  (16, .aload_n 0, 17, 0, []),
  (17, .getfield 18, 20, 4, []),
  (20, .iload_n 2, 21, 2, []),
  (21, .iload_n 3, 22, 3, []),
  (22, .iastore, 23, 0, []),
  (23, .aload_n 0, 24, 0, []),
  (24, .getfield 21, 27, 5, []),
  (27, .iload_n 2, 28, 2, []),
  (28, .iload_n 3, 29, 3, []),
  (29, .iastore, 30, 0, []),
  (30, .aload_n 0, 31, 0, []),
  (31, .aload_n 1, 32, 1, []),
  (32, .invokevirtual 60, 35, 0, []),
  (35, .ifCond .eq 14, 38, 49, []),
  (38, .aload_n 0, 39, 0, []),
  (39, .aload_n 1, 40, 1, []),
  (40, .getfield 30, 43, 1, []),
  (43, .invokevirtual 63, 46, 0, []),
  (46, .goto 4, 49, 50, []),
  (49, .iconst (-1), 50, 0, [((-1), 0)]),
  (50, .istore 6, 52, 6, []),
  (52, .aload_n 0, 53, 0, []),
  (53, .getfield 18, 56, 4, []),
  (56, .iload_n 2, 57, 2, []),
  (57, .iload 4, 59, 4, []),
  (59, .iastore, 60, 0, []),
  (60, .aload_n 0, 61, 0, []),
  (61, .getfield 21, 64, 5, []),
  (64, .iload_n 2, 65, 2, []),
  (65, .iload 5, 67, 5, []),
  (67, .iastore, 68, 0, []),
  (68, .iload 6, 70, 6, []),
  (70, .ireturn, 71, 0, [])]
def m_Spans_widthByTest : MI := (⟨"HandOverHorse$Spans", "widthByTest", "(LHandOverHorse$Wall;II)I"⟩, prog_9_method_6_code, 7, (some .int), p_Spans_widthByTest, 10)
def p_Spans_widthOf : List PE := [(0, .iconst 0, 1, 0, [(0, 0)]),
  (1, .istore_n 2, 2, 2, []),
  (2, .iconst 0, 3, 0, [(0, 0)]),
  (3, .istore_n 3, 4, 3, []),
  (4, .iload_n 3, 5, 3, []),
  (5, .iload_n 1, 6, 1, []),
  (6, .if_icmp .ge 25, 9, 31, []),
  (9, .iload_n 2, 10, 2, []),
  (10, .aload_n 0, 11, 0, []),
  (11, .getfield 15, 14, 1, []),
  (14, .iload_n 3, 15, 3, []),
  (15, .iaload, 16, 0, []),
  (16, .aload_n 0, 17, 0, []),
  (17, .getfield 9, 20, 0, []),
  (20, .iload_n 3, 21, 3, []),
  (21, .iaload, 22, 0, []),
  (22, .isub, 23, 0, []),
  (23, .iadd, 24, 0, []),
  (24, .istore_n 2, 25, 2, []),
  (25, .iinc 3 1, 28, 3, [(1, 0)]),
  (28, .goto (-24), 31, 4, []),
  (31, .iload_n 2, 32, 2, []),
  (32, .ireturn, 33, 0, [])]
def m_Spans_widthOf : MI := (⟨"HandOverHorse$Spans", "widthOf", "(I)I"⟩, prog_9_method_7_code, 4, (some .int), p_Spans_widthOf, 10)
def p_Spans_findNext : List PE := [(0, .aload_n 0, 1, 0, []),
  (1, .aload_n 1, 2, 1, []),
  (2, .invokevirtual 60, 5, 0, []),
  (5, .ifCond .ne 5, 8, 10, []),
  (8, .iconst 0, 9, 0, [(0, 0)]),
  (9, .ireturn, 10, 0, []),
  (10, .iconst 0, 11, 0, [(0, 0)]),
  (11, .istore_n 2, 12, 2, []),
  (12, .iload_n 2, 13, 2, []),
  (13, .aload_n 1, 14, 1, []),
  (14, .getfield 30, 17, 1, []),
  (17, .if_icmp .ge 33, 20, 50, []),
  (20, .aload_n 0, 21, 0, []),
  (21, .getfield 24, 24, 6, []),
  (24, .iload_n 2, 25, 2, []),
  (25, .aload_n 0, 26, 0, []),
  (26, .getfield 9, 29, 0, []),
  (29, .iload_n 2, 30, 2, []),
  (30, .iaload, 31, 0, []),
  (31, .iastore, 32, 0, []),
  (32, .aload_n 0, 33, 0, []),
  (33, .getfield 27, 36, 7, []),
  (36, .iload_n 2, 37, 2, []),
  (37, .aload_n 0, 38, 0, []),
  (38, .getfield 15, 41, 1, []),
  (41, .iload_n 2, 42, 2, []),
  (42, .iaload, 43, 0, []),
  (43, .iastore, 44, 0, []),
  (44, .iinc 2 1, 47, 2, [(1, 0)]),
  (47, .goto (-35), 50, 12, []),
  (50, .aload_n 0, 51, 0, []),
  (51, .iconst 0, 52, 0, [(0, 0)]),
  (52, .putfield 66, 55, 2, []),
  (55, .aload_n 0, 56, 0, []),
  (56, .aload_n 0, 57, 0, []),
  (57, .aload_n 1, 58, 1, []),
  (58, .iconst 0, 59, 0, [(0, 0)]),
  (59, .invokevirtual 69, 62, 0, []),
  (62, .putfield 73, 65, 3, []),
  (65, .iconst 1, 66, 0, [(1, 0)]),
  (66, .istore_n 2, 67, 2, []),
  (67, .iload_n 2, 68, 2, []),
  (68, .aload_n 1, 69, 1, []),
  (69, .getfield 30, 72, 1, []),
  (72, .if_icmp .ge 34, 75, 106, []),
  (75, .aload_n 0, 76, 0, []),
  (76, .aload_n 1, 77, 1, []),
  (77, .iload_n 2, 78, 2, []),
  (78, .invokevirtual 69, 81, 0, []),
  (81, .istore_n 3, 82, 3, []),
  (82, .iload_n 3, 83, 3, []),
  (83, .aload_n 0, 84, 0, []),
  (84, .getfield 73, 87, 3, []),
  (87, .if_icmp .ge 13, 90, 100, []),
  (90, .aload_n 0, 91, 0, []),
  (91, .iload_n 2, 92, 2, []),
  (92, .putfield 66, 95, 2, []),
  (95, .aload_n 0, 96, 0, []),
  (96, .iload_n 3, 97, 3, []),
  (97, .putfield 73, 100, 3, []),
  (100, .iinc 2 1, 103, 2, [(1, 0)]),
  (103, .goto (-36), 106, 67, []),
  (106, .iconst 1, 107, 0, [(1, 0)]),
  (107, .ireturn, 108, 0, [])]
def m_Spans_findNext : MI := (⟨"HandOverHorse$Spans", "findNext", "(LHandOverHorse$Wall;)Z"⟩, prog_9_method_8_code, 4, (some .boolean), p_Spans_findNext, 10)
def p_Spans_worstOf : List PE := [(0, .aload_n 0, 1, 0, []),
  (1, .getfield 24, 4, 6, []),
  (4, .iload_n 2, 5, 2, []),
  (5, .iaload, 6, 0, []),
  (6, .istore_n 3, 7, 3, []),
  (7, .aload_n 0, 8, 0, []),
  (8, .getfield 27, 11, 7, []),
  (11, .iload_n 2, 12, 2, []),
  (12, .iaload, 13, 0, []),
  (13, .istore 4, 15, 4, []),
  (15, .aload_n 0, 16, 0, []),
  (16, .aload_n 1, 17, 1, []),
  (17, .iload_n 2, 18, 2, []),
  (18, .iload_n 3, 19, 3, []),
  (19, .invokevirtual 76, 22, 0, []),
  (22, .istore 5, 24, 5, []),
  (24, .iload 5, 26, 5, []),
  (26, .aload_n 0, 27, 0, []),
  (27, .aload_n 1, 28, 1, []),
  (28, .iload_n 2, 29, 2, []),
  (29, .iload_n 3, 30, 3, []),
  (30, .iload 4, 32, 4, []),
  (32, .iadd, 33, 0, []),
  (33, .iconst 2, 34, 0, [(2, 0)]),
  (34, .idiv, 35, 0, []),
  (35, .invokevirtual 76, 38, 0, []),
  (38, .invokestatic 80, 41, 0, []),
  (41, .istore 5, 43, 5, []),
  (43, .iload 5, 45, 5, []),
  (45, .aload_n 0, 46, 0, []),
  (46, .aload_n 1, 47, 1, []),
  (47, .iload_n 2, 48, 2, []),
  (48, .iload 4, 50, 4, []),
  (50, .invokevirtual 76, 53, 0, []),
  (53, .invokestatic 80, 56, 0, []),
  (56, .ireturn, 57, 0, [])]
def m_Spans_worstOf : MI := (⟨"HandOverHorse$Spans", "worstOf", "(LHandOverHorse$Wall;I)I"⟩, prog_9_method_9_code, 6, (some .int), p_Spans_worstOf, 10)
def p_Stroke_init : List PE := [(0, .aload_n 0, 1, 0, []),
  (1, .invokespecial 3, 4, 0, []),
  (4, .aload_n 0, 5, 0, []),
  (5, .sipush 9999, 8, 0, [(9999, 0)]),
  (8, .putfield 9, 11, 5, []),
  (11, .return_, 12, 0, [])]
def m_Stroke_init : MI := (⟨"HandOverHorse$Stroke", "<init>", "()V"⟩, prog_10_method_1_code, 1, none, p_Stroke_init, 0)
def p_Stroke_copyFrom : List PE := [(0, .aload_n 0, 1, 0, []),
  (1, .aload_n 1, 2, 1, []),
  (2, .getfield 15, 5, 0, []),
  (5, .putfield 15, 8, 0, []),
  (8, .aload_n 0, 9, 0, []),
  (9, .aload_n 1, 10, 1, []),
  (10, .getfield 18, 13, 1, []),
  (13, .putfield 18, 16, 1, []),
  (16, .aload_n 0, 17, 0, []),
  (17, .aload_n 1, 18, 1, []),
  (18, .getfield 21, 21, 2, []),
  (21, .putfield 21, 24, 2, []),
  (24, .aload_n 0, 25, 0, []),
  (25, .aload_n 1, 26, 1, []),
  (26, .getfield 24, 29, 3, []),
  (29, .putfield 24, 32, 3, []),
  (32, .aload_n 0, 33, 0, []),
  (33, .aload_n 1, 34, 1, []),
  (34, .getfield 27, 37, 4, []),
  (37, .putfield 27, 40, 4, []),
  (40, .aload_n 0, 41, 0, []),
  (41, .aload_n 1, 42, 1, []),
  (42, .getfield 9, 45, 5, []),
  (45, .putfield 9, 48, 5, []),
  (48, .aload_n 0, 49, 0, []),
  (49, .aload_n 1, 50, 1, []),
  (50, .getfield 30, 53, 6, []),
  (53, .putfield 30, 56, 6, []),
  (56, .return_, 57, 0, [])]
def m_Stroke_copyFrom : MI := (⟨"HandOverHorse$Stroke", "copyFrom", "(LHandOverHorse$Stroke;)V"⟩, prog_10_method_2_code, 2, none, p_Stroke_copyFrom, 0)
def p_Stroke_part : List PE := [(0, .iload_n 1, 1, 1, []),
  (1, .tableswitch 60 1 5 #[35, 40, 45, 50, 55], 36, 61, [(1, 36), (2, 41), (3, 46), (4, 51), (5, 56)]),
  (36, .aload_n 0, 37, 0, []),
  (37, .getfield 18, 40, 1, []),
  (40, .ireturn, 41, 0, []),
  (41, .aload_n 0, 42, 0, []),
  (42, .getfield 21, 45, 2, []),
  (45, .ireturn, 46, 0, []),
  (46, .aload_n 0, 47, 0, []),
  (47, .getfield 24, 50, 3, []),
  (50, .ireturn, 51, 0, []),
  (51, .aload_n 0, 52, 0, []),
  (52, .getfield 27, 55, 4, []),
  (55, .ireturn, 56, 0, []),
  (56, .aload_n 0, 57, 0, []),
  (57, .getfield 9, 60, 5, []),
  (60, .ireturn, 61, 0, []),
  (61, .aload_n 0, 62, 0, []),
  (62, .getfield 30, 65, 6, []),
  (65, .ireturn, 66, 0, [])]
def m_Stroke_part : MI := (⟨"HandOverHorse$Stroke", "part", "(I)I"⟩, prog_10_method_3_code, 2, (some .int), p_Stroke_part, 0)
def p_Stroke_setPart : List PE := [(0, .iload_n 1, 1, 1, []),
  (1, .tableswitch 63 2 5 #[31, 39, 47, 55], 32, 64, [(2, 32), (3, 40), (4, 48), (5, 56)]),
  (32, .aload_n 0, 33, 0, []),
  (33, .iload_n 2, 34, 2, []),
  (34, .putfield 21, 37, 2, []),
  (37, .goto 32, 40, 69, []),
  (40, .aload_n 0, 41, 0, []),
  (41, .iload_n 2, 42, 2, []),
  (42, .putfield 24, 45, 3, []),
  (45, .goto 24, 48, 69, []),
  (48, .aload_n 0, 49, 0, []),
  (49, .iload_n 2, 50, 2, []),
  (50, .putfield 27, 53, 4, []),
  (53, .goto 16, 56, 69, []),
  (56, .aload_n 0, 57, 0, []),
  (57, .iload_n 2, 58, 2, []),
  (58, .putfield 9, 61, 5, []),
  (61, .goto 8, 64, 69, []),
  (64, .aload_n 0, 65, 0, []),
  (65, .iload_n 2, 66, 2, []),
  (66, .putfield 30, 69, 6, []),
  (69, .return_, 70, 0, [])]
def m_Stroke_setPart : MI := (⟨"HandOverHorse$Stroke", "setPart", "(II)V"⟩, prog_10_method_4_code, 3, none, p_Stroke_setPart, 0)
def p_Stroke_begin : List PE := [(0, .aload_n 0, 1, 0, []),
  (1, .iconst 0, 2, 0, [(0, 0)]),
  (2, .iaload, 3, 0, []),
  (3, .bipush 40, 5, 0, [(40, 0)]),
  (5, .if_icmp .ge 16, 8, 21, []),
  (8, .aload_n 0, 9, 0, []),
  (9, .iconst 0, 10, 0, [(0, 0)]),
  (10, .dup2, 11, 0, []),
  (11, .iaload, 12, 0, []),
  (12, .iconst 1, 13, 0, [(1, 0)]),
  (13, .iadd, 14, 0, []),
  (14, .iastore, 15, 0, []),
  (15, .aload_n 0, 16, 0, []),
  (16, .aload_n 0, 17, 0, []),
  (17, .iconst 0, 18, 0, [(0, 0)]),
  (18, .iaload, 19, 0, []),
  (19, .iload_n 1, 20, 1, []),
  (20, .iastore, 21, 0, []),
  (21, .return_, 22, 0, [])]
def m_Stroke_begin : MI := (⟨"HandOverHorse$Stroke", "begin", "([II)V"⟩, prog_10_method_5_code, 2, none, p_Stroke_begin, 0)
def p_Stroke_kind : List PE := [(0, .iconst 0, 1, 0, [(0, 0)]),
  (1, .ireturn, 2, 0, [])]
def m_Stroke_kind : MI := (⟨"HandOverHorse$Stroke", "kind", "()I"⟩, prog_10_method_6_code, 1, (some .int), p_Stroke_kind, 0)
def p_Stroke_isOf : List PE := [(0, .iload_n 1, 1, 1, []),
  (1, .ifCond .ne 7, 4, 8, []),
  (4, .iconst 1, 5, 0, [(1, 0)]),
  (5, .goto 4, 8, 9, []),
  (8, .iconst 0, 9, 0, [(0, 0)]),
  (9, .ireturn, 10, 0, [])]
def m_Stroke_isOf : MI := (⟨"HandOverHorse$Stroke", "isOf", "(I)Z"⟩, prog_10_method_7_code, 2, (some .boolean), p_Stroke_isOf, 0)
def p_Stroke_early : List PE := [(0, .aload_n 0, 1, 0, []),
  (1, .getfield 27, 4, 4, []),
  (4, .ireturn, 5, 0, [])]
def m_Stroke_early : MI := (⟨"HandOverHorse$Stroke", "early", "()I"⟩, prog_10_method_8_code, 1, (some .int), p_Stroke_early, 0)
def p_Stroke_late : List PE := [(0, .aload_n 0, 1, 0, []),
  (1, .getfield 9, 4, 5, []),
  (4, .ireturn, 5, 0, [])]
def m_Stroke_late : MI := (⟨"HandOverHorse$Stroke", "late", "()I"⟩, prog_10_method_9_code, 1, (some .int), p_Stroke_late, 0)
def p_Stroke_stuff : List PE := [(0, .iconst 0, 1, 0, [(0, 0)]),
  (1, .ireturn, 2, 0, [])]
def m_Stroke_stuff : MI := (⟨"HandOverHorse$Stroke", "stuff", "()I"⟩, prog_10_method_10_code, 1, (some .int), p_Stroke_stuff, 0)
def p_Stroke_gap : List PE := [(0, .iconst 1, 1, 0, [(1, 0)]),
  (1, .ireturn, 2, 0, [])]
def m_Stroke_gap : MI := (⟨"HandOverHorse$Stroke", "gap", "()I"⟩, prog_10_method_11_code, 1, (some .int), p_Stroke_gap, 0)
def p_Stroke_draws : List PE := [(0, .aload_n 1, 1, 1, []),
  (1, .bipush 10, 3, 0, [(10, 0)]),
  (3, .invokestatic 33, 6, 0, []),
  (6, .iload_n 2, 7, 2, []),
  (7, .aload_n 0, 8, 0, []),
  (8, .getfield 15, 11, 0, []),
  (11, .iadd, 12, 0, []),
  (12, .ireturn, 13, 0, [])]
def m_Stroke_draws : MI := (⟨"HandOverHorse$Stroke", "draws", "([II)I"⟩, prog_10_method_12_code, 3, (some .int), p_Stroke_draws, 0)
def p_Stroke_dries : List PE := [(0, .aload_n 1, 1, 1, []),
  (1, .bipush 11, 3, 0, [(11, 0)]),
  (3, .invokestatic 33, 6, 0, []),
  (6, .aload_n 0, 7, 0, []),
  (7, .aload_n 1, 8, 1, []),
  (8, .iload_n 2, 9, 2, []),
  (9, .invokevirtual 37, 12, 0, []),
  (12, .iconst 2, 13, 0, [(2, 0)]),
  (13, .imul, 14, 0, []),
  (14, .ireturn, 15, 0, [])]
def m_Stroke_dries : MI := (⟨"HandOverHorse$Stroke", "dries", "([II)I"⟩, prog_10_method_13_code, 3, (some .int), p_Stroke_dries, 0)
def p_Stroke_peels : List PE := [(0, .aload_n 1, 1, 1, []),
  (1, .bipush 12, 3, 0, [(12, 0)]),
  (3, .invokestatic 33, 6, 0, []),
  (6, .iload_n 2, 7, 2, []),
  (7, .aload_n 0, 8, 0, []),
  (8, .getfield 18, 11, 1, []),
  (11, .isub, 12, 0, []),
  (12, .ireturn, 13, 0, [])]
def m_Stroke_peels : MI := (⟨"HandOverHorse$Stroke", "peels", "([II)I"⟩, prog_10_method_14_code, 3, (some .int), p_Stroke_peels, 0)
def p_Stroke_tells : List PE := [(0, .aload_n 1, 1, 1, []),
  (1, .bipush 13, 3, 0, [(13, 0)]),
  (3, .invokestatic 33, 6, 0, []),
  (6, .aload_n 0, 7, 0, []),
  (7, .aload_n 1, 8, 1, []),
  (8, .iload_n 2, 9, 2, []),
  (9, .invokevirtual 41, 12, 0, []),
  (12, .aload_n 0, 13, 0, []),
  (13, .aload_n 1, 14, 1, []),
  (14, .iload_n 2, 15, 2, []),
  (15, .invokevirtual 44, 18, 0, []),
  (18, .ixor, 19, 0, []),
  (19, .ireturn, 20, 0, [])]
def m_Stroke_tells : MI := (⟨"HandOverHorse$Stroke", "tells", "([II)I"⟩, prog_10_method_15_code, 3, (some .int), p_Stroke_tells, 0)
def p_Text_init : List PE := [(0, .aload_n 0, 1, 0, []),
  (1, .invokespecial 3, 4, 0, []),
  (4, .aload_n 0, 5, 0, []),
  (5, .bipush 50, 7, 0, [(50, 0)]),
  (7, .newarray .int, 9, 0, []),
  (9, .putfield 9, 12, 0, []),
  (12, .aload_n 0, 13, 0, []),
  (13, .bipush 50, 15, 0, [(50, 0)]),
  (15, .newarray .int, 17, 0, []),
  (17, .putfield 15, 20, 1, []),
  (20, .aload_n 0, 21, 0, []),
  (21, .bipush 50, 23, 0, [(50, 0)]),
  (23, .newarray .int, 25, 0, []),
  (25, .putfield 18, 28, 3, []),
  (28, .aload_n 0, 29, 0, []),
  (29, .iconst 0, 30, 0, [(0, 0)]),
  (30, .newarray .int, 32, 0, []),
  (32, .putfield 21, 35, 4, []),
  (35, .aload_n 0, 36, 0, []),
  (36, .ldc 24, 38, 0, []),
  (38, .putfield 26, 41, 7, []),
  (41, .return_, 42, 0, [])]
def m_Text_init : MI := (⟨"HandOverHorse$Text", "<init>", "()V"⟩, prog_11_method_1_code, 1, none, p_Text_init, 7)
def p_Text_copyFrom : List PE := [(0, .aload_n 0, 1, 0, []),
  (1, .aload_n 1, 2, 1, []),
  (2, .getfield 30, 5, 2, []),
  (5, .putfield 30, 8, 2, []),
  (8, .iconst 0, 9, 0, [(0, 0)]),
  (9, .istore_n 2, 10, 2, []),
  (10, .iload_n 2, 11, 2, []),
  (11, .aload_n 1, 12, 1, []),
  (12, .getfield 30, 15, 2, []),
  (15, .if_icmp .ge 33, 18, 48, []),
  (18, .aload_n 0, 19, 0, []),
  (19, .getfield 9, 22, 0, []),
  (22, .iload_n 2, 23, 2, []),
  (23, .aload_n 1, 24, 1, []),
  (24, .getfield 9, 27, 0, []),
  (27, .iload_n 2, 28, 2, []),
  (28, .iaload, 29, 0, []),
  (29, .iastore, 30, 0, []),
  (30, .aload_n 0, 31, 0, []),
  (31, .getfield 15, 34, 1, []),
  (34, .iload_n 2, 35, 2, []),
  (35, .aload_n 1, 36, 1, []),
  (36, .getfield 15, 39, 1, []),
  (39, .iload_n 2, 40, 2, []),
  (40, .iaload, 41, 0, []),
  (41, .iastore, 42, 0, []),
  (42, .iinc 2 1, 45, 2, [(1, 0)]),
  (45, .goto (-35), 48, 10, []),
  (48, .return_, 49, 0, [])]
def m_Text_copyFrom : MI := (⟨"HandOverHorse$Text", "copyFrom", "(LHandOverHorse$Text;)V"⟩, prog_11_method_2_code, 3, none, p_Text_copyFrom, 7)
def p_Text_isEmpty : List PE := [(0, .aload_n 0, 1, 0, []),
  (1, .getfield 30, 4, 2, []),
  (4, .ifCond .ne 7, 7, 11, []),
  (7, .iconst 1, 8, 0, [(1, 0)]),
  (8, .goto 4, 11, 12, []),
  (11, .iconst 0, 12, 0, [(0, 0)]),
  (12, .ireturn, 13, 0, [])]
def m_Text_isEmpty : MI := (⟨"HandOverHorse$Text", "isEmpty", "()Z"⟩, prog_11_method_3_code, 1, (some .boolean), p_Text_isEmpty, 7)
def p_Text_read : List PE := [(0, .aload_n 0, 1, 0, []),
  (1, .aload_n 1, 2, 1, []),
  (2, .putfield 21, 5, 4, []),
  (5, .aload_n 0, 6, 0, []),
  (6, .iload_n 2, 7, 2, []),
  (7, .putfield 34, 10, 5, []),
  (10, .aload_n 0, 11, 0, []),
  (11, .aload_n 3, 12, 3, []),
  (12, .putfield 26, 15, 7, []),
  (15, .aload_n 0, 16, 0, []),
  (16, .iconst 0, 17, 0, [(0, 0)]),
  (17, .putfield 37, 20, 6, []),
  (20, .aload_n 0, 21, 0, []),
  (21, .iconst 0, 22, 0, [(0, 0)]),
  (22, .putfield 30, 25, 2, []),
  (25, .aload_n 0, 26, 0, []),
  (26, .iconst 0, 27, 0, [(0, 0)]),
  (27, .iconst 0, 28, 0, [(0, 0)]),
  (28, .invokevirtual 40, 31, 0, []),
  (31, .ifCond .eq 18, 34, 49, []),
  (34, .aload_n 0, 35, 0, []),
  (35, .getfield 37, 38, 6, []),
  (38, .aload_n 0, 39, 0, []),
  (39, .getfield 34, 42, 5, []),
  (42, .if_icmp .ne 7, 45, 49, []),
  (45, .iconst (-1), 46, 0, [((-1), 0)]),
  (46, .goto 7, 49, 53, []),
  (49, .aload_n 0, 50, 0, []),
  (50, .getfield 37, 53, 6, []),
  (53, .ireturn, 54, 0, [])]
def m_Text_read : MI := (⟨"HandOverHorse$Text", "read", "([IILjava/lang/String;)I"⟩, prog_11_method_4_code, 4, (some .int), p_Text_read, 7)
def p_Text_here : List PE := [(0, .aload_n 0, 1, 0, []),
  (1, .getfield 37, 4, 6, []),
  (4, .aload_n 0, 5, 0, []),
  (5, .getfield 34, 8, 5, []),
  (8, .if_icmp .ge 27, 11, 35, []),
  (11, .aload_n 0, 12, 0, []),
  (12, .getfield 37, 15, 6, []),
  (15, .aload_n 0, 16, 0, []),
  (16, .getfield 21, 19, 4, []),
  (19, .arraylength, 20, 0, []),
  (20, .if_icmp .ge 15, 23, 35, []),
  (23, .aload_n 0, 24, 0, []),
  (24, .getfield 21, 27, 4, []),
  (27, .aload_n 0, 28, 0, []),
  (28, .getfield 37, 31, 6, []),
  (31, .iaload, 32, 0, []),
  (32, .goto 4, 35, 36, []),
  (35, .iconst (-1), 36, 0, [((-1), 0)]),
  (36, .ireturn, 37, 0, [])]
def m_Text_here : MI := (⟨"HandOverHorse$Text", "here", "()I"⟩, prog_11_method_5_code, 1, (some .int), p_Text_here, 7)
def p_Text_isDigit : List PE := [(0, .iload_n 0, 1, 0, []),
  (1, .bipush 48, 3, 0, [(48, 0)]),
  (3, .if_icmp .lt 13, 6, 16, []),
  (6, .iload_n 0, 7, 0, []),
  (7, .bipush 57, 9, 0, [(57, 0)]),
  (9, .if_icmp .gt 7, 12, 16, []),
  (12, .iconst 1, 13, 0, [(1, 0)]),
  (13, .goto 4, 16, 17, []),
  (16, .iconst 0, 17, 0, [(0, 0)]),
  (17, .ireturn, 18, 0, [])]
def m_Text_isDigit : MI := (⟨"HandOverHorse$Text", "isDigit", "(I)Z"⟩, prog_11_method_6_code, 1, (some .boolean), p_Text_isDigit, 7)
def p_Text_levelOf : List PE := [(0, .iload_n 0, 1, 0, []),
  (1, .lookupswitch 101 #[(37, 99), (38, 93), (42, 99), (43, 97), (45, 97), (47, 99), (60, 95), (61, 95), (62, 95), (124, 91)], 92, 102, [(37, 100), (38, 94), (42, 100), (43, 98), (45, 98), (47, 100), (60, 96), (61, 96), (62, 96), (124, 92)]),
  (92, .iconst 0, 93, 0, [(0, 0)]),
  (93, .ireturn, 94, 0, []),
  (94, .iconst 1, 95, 0, [(1, 0)]),
  (95, .ireturn, 96, 0, []),
  (96, .iconst 2, 97, 0, [(2, 0)]),
  (97, .ireturn, 98, 0, []),
  (98, .iconst 3, 99, 0, [(3, 0)]),
  (99, .ireturn, 100, 0, []),
  (100, .iconst 4, 101, 0, [(4, 0)]),
  (101, .ireturn, 102, 0, []),
  (102, .iconst (-1), 103, 0, [((-1), 0)]),
  (103, .ireturn, 104, 0, [])]
def m_Text_levelOf : MI := (⟨"HandOverHorse$Text", "levelOf", "(I)I"⟩, prog_11_method_7_code, 1, (some .int), p_Text_levelOf, 7)
def p_Text_readLevel : List PE := [(0, .iload_n 1, 1, 1, []),
  (1, .iconst 5, 2, 0, [(5, 0)]),
  (2, .if_icmp .lt 9, 5, 11, []),
  (5, .aload_n 0, 6, 0, []),
  (6, .iload_n 2, 7, 2, []),
  (7, .invokevirtual 44, 10, 0, []),
  (10, .ireturn, 11, 0, []),
  (11, .aload_n 0, 12, 0, []),
  (12, .iload_n 1, 13, 1, []),
  (13, .iconst 1, 14, 0, [(1, 0)]),
  (14, .iadd, 15, 0, []),
  (15, .iload_n 2, 16, 2, []),
  (16, .invokevirtual 40, 19, 0, []),
  (19, .ifCond .ne 5, 22, 24, []),
  (22, .iconst 0, 23, 0, [(0, 0)]),
  (23, .ireturn, 24, 0, []),
  (24, .iconst 0, 25, 0, [(0, 0)]),
  (25, .istore_n 3, 26, 3, []),
  (26, .iload_n 3, 27, 3, []),
  (27, .bipush 50, 29, 0, [(50, 0)]),
  (29, .if_icmp .ge 63, 32, 92, []),
  (32, .aload_n 0, 33, 0, []),
  (33, .invokevirtual 48, 36, 0, []),
  (36, .invokestatic 52, 39, 0, []),
  (39, .iload_n 1, 40, 1, []),
  (40, .if_icmp .ne 52, 43, 92, []),
  (43, .aload_n 0, 44, 0, []),
  (44, .invokevirtual 48, 47, 0, []),
  (47, .istore 4, 49, 4, []),
  (49, .aload_n 0, 50, 0, []),
  (50, .dup, 51, 0, []),
  (51, .getfield 37, 54, 6, []),
  (54, .iconst 1, 55, 0, [(1, 0)]),
  (55, .iadd, 56, 0, []),
  (56, .putfield 37, 59, 6, []),
  (59, .aload_n 0, 60, 0, []),
  (60, .iload_n 1, 61, 1, []),
  (61, .iconst 1, 62, 0, [(1, 0)]),
  (62, .iadd, 63, 0, []),
  (63, .iload_n 2, 64, 2, []),
  (64, .invokevirtual 40, 67, 0, []),
  (67, .ifCond .ne 5, 70, 72, []),
  (70, .iconst 0, 71, 0, [(0, 0)]),
  (71, .ireturn, 72, 0, []),
  (72, .aload_n 0, 73, 0, []),
  (73, .iload 4, 75, 4, []),
  (75, .iconst 0, 76, 0, [(0, 0)]),
  (76, .invokevirtual 56, 79, 0, []),
  (79, .iload_n 1, 80, 1, []),
  (80, .iconst 2, 81, 0, [(2, 0)]),
  (81, .if_icmp .ne 5, 84, 86, []),
  (84, .iconst 1, 85, 0, [(1, 0)]),
  (85, .ireturn, 86, 0, []),
  (86, .iinc 3 1, 89, 3, [(1, 0)]),
  (89, .goto (-63), 92, 26, []),
  (92, .iconst 1, 93, 0, [(1, 0)]),
  (93, .ireturn, 94, 0, [])]
def m_Text_readLevel : MI := (⟨"HandOverHorse$Text", "readLevel", "(II)Z"⟩, prog_11_method_8_code, 5, (some .boolean), p_Text_readLevel, 7)
def p_Text_readLeaf : List PE := [(0, .aload_n 0, 1, 0, []),
  (1, .invokevirtual 48, 4, 0, []),
  (4, .istore_n 2, 5, 2, []),
  (5, .iload_n 2, 6, 2, []),
  (6, .invokestatic 60, 9, 0, []),
  (9, .ifCond .eq 9, 12, 18, []),
  (12, .aload_n 0, 13, 0, []),
  (13, .invokevirtual 63, 16, 0, []),
  (16, .iconst 1, 17, 0, [(1, 0)]),
  (17, .ireturn, 18, 0, []),
  (18, .iload_n 2, 19, 2, []),
  (19, .bipush 33, 21, 0, [(33, 0)]),
  (21, .if_icmp .eq 9, 24, 30, []),
  (24, .iload_n 2, 25, 2, []),
  (25, .bipush 40, 27, 0, [(40, 0)]),
  (27, .if_icmp .ne 44, 30, 71, []),
  (30, .iload_n 1, 31, 1, []),
  (31, .iconst 5, 32, 0, [(5, 0)]),
  (32, .if_icmp .lt 5, 35, 37, []),
  (35, .iconst 0, 36, 0, [(0, 0)]),
  (36, .ireturn, 37, 0, []),
  (37, .aload_n 0, 38, 0, []),
  (38, .dup, 39, 0, []),
  (39, .getfield 37, 42, 6, []),
  (42, .iconst 1, 43, 0, [(1, 0)]),
  (43, .iadd, 44, 0, []),
  (44, .putfield 37, 47, 6, []),
  (47, .iload_n 2, 48, 2, []),
  (48, .bipush 33, 50, 0, [(33, 0)]),
  (50, .if_icmp .ne 13, 53, 63, []),
  (53, .aload_n 0, 54, 0, []),
  (54, .iload_n 1, 55, 1, []),
  (55, .iconst 1, 56, 0, [(1, 0)]),
  (56, .iadd, 57, 0, []),
  (57, .invokevirtual 66, 60, 0, []),
  (60, .goto 10, 63, 70, []),
  (63, .aload_n 0, 64, 0, []),
  (64, .iload_n 1, 65, 1, []),
  (65, .iconst 1, 66, 0, [(1, 0)]),
  (66, .iadd, 67, 0, []),
  (67, .invokevirtual 69, 70, 0, []),
  (70, .ireturn, 71, 0, []),
  (71, .iload_n 2, 72, 2, []),
  (72, .ifCond .ge 7, 75, 79, []),
  (75, .iconst (-1), 76, 0, [((-1), 0)]),
  (76, .goto 12, 79, 88, []),
  (79, .aload_n 0, 80, 0, []),
  (80, .getfield 26, 83, 7, []),
  (83, .iload_n 2, 84, 2, []),
  (84, .i2c, 85, 0, []),
  (85, .invokevirtual 72, 88, 0, []),
  (88, .istore_n 3, 89, 3, []),
  (89, .iload_n 3, 90, 3, []),
  (90, .ifCond .ge 5, 93, 95, []),
  (93, .iconst 0, 94, 0, [(0, 0)]),
  (94, .ireturn, 95, 0, []),
  (95, .aload_n 0, 96, 0, []),
  (96, .dup, 97, 0, []),
  (97, .getfield 37, 100, 6, []),
  (100, .iconst 1, 101, 0, [(1, 0)]),
  (101, .iadd, 102, 0, []),
  (102, .putfield 37, 105, 6, []),
  (105, .aload_n 0, 106, 0, []),
  (106, .iconst 1, 107, 0, [(1, 0)]),
  (107, .iload_n 3, 108, 3, []),
  (108, .invokevirtual 56, 111, 0, []),
  (111, .iconst 1, 112, 0, [(1, 0)]),
  (112, .ireturn, 113, 0, [])]
def m_Text_readLeaf : MI := (⟨"HandOverHorse$Text", "readLeaf", "(I)Z"⟩, prog_11_method_9_code, 4, (some .boolean), p_Text_readLeaf, 7)
def p_Text_readNot : List PE := [(0, .aload_n 0, 1, 0, []),
  (1, .iload_n 1, 2, 1, []),
  (2, .invokevirtual 44, 5, 0, []),
  (5, .ifCond .ne 5, 8, 10, []),
  (8, .iconst 0, 9, 0, [(0, 0)]),
  (9, .ireturn, 10, 0, []),
  (10, .aload_n 0, 11, 0, []),
  (11, .bipush 33, 13, 0, [(33, 0)]),
  (13, .iconst 0, 14, 0, [(0, 0)]),
  (14, .invokevirtual 56, 17, 0, []),
  (17, .iconst 1, 18, 0, [(1, 0)]),
  (18, .ireturn, 19, 0, [])]
def m_Text_readNot : MI := (⟨"HandOverHorse$Text", "readNot", "(I)Z"⟩, prog_11_method_10_code, 2, (some .boolean), p_Text_readNot, 7)
def p_Text_readBracket : List PE := [(0, .aload_n 0, 1, 0, []),
  (1, .iconst 0, 2, 0, [(0, 0)]),
  (2, .iload_n 1, 3, 1, []),
  (3, .invokevirtual 40, 6, 0, []),
  (6, .ifCond .eq 12, 9, 18, []),
  (9, .aload_n 0, 10, 0, []),
  (10, .invokevirtual 48, 13, 0, []),
  (13, .bipush 41, 15, 0, [(41, 0)]),
  (15, .if_icmp .eq 5, 18, 20, []),
  (18, .iconst 0, 19, 0, [(0, 0)]),
  (19, .ireturn, 20, 0, []),
  (20, .aload_n 0, 21, 0, []),
  (21, .dup, 22, 0, []),
  (22, .getfield 37, 25, 6, []),
  (25, .iconst 1, 26, 0, [(1, 0)]),
  (26, .iadd, 27, 0, []),
  (27, .putfield 37, 30, 6, []),
  (30, .iconst 1, 31, 0, [(1, 0)]),
  (31, .ireturn, 32, 0, [])]
def m_Text_readBracket : MI := (⟨"HandOverHorse$Text", "readBracket", "(I)Z"⟩, prog_11_method_11_code, 2, (some .boolean), p_Text_readBracket, 7)
def p_Text_readNumber : List PE := [(0, .iconst 0, 1, 0, [(0, 0)]),
  (1, .istore_n 1, 2, 1, []),
  (2, .iconst 0, 3, 0, [(0, 0)]),
  (3, .istore_n 2, 4, 2, []),
  (4, .iload_n 2, 5, 2, []),
  (5, .iconst 4, 6, 0, [(4, 0)]),
  (6, .if_icmp .ge 42, 9, 48, []),
  (9, .aload_n 0, 10, 0, []),
  (10, .invokevirtual 48, 13, 0, []),
  (13, .invokestatic 60, 16, 0, []),
  (16, .ifCond .eq 32, 19, 48, []),
  (19, .iload_n 1, 20, 1, []),
  (20, .bipush 10, 22, 0, [(10, 0)]),
  (22, .imul, 23, 0, []),
  (23, .aload_n 0, 24, 0, []),
  (24, .invokevirtual 48, 27, 0, []),
  (27, .iadd, 28, 0, []),
  (28, .bipush 48, 30, 0, [(48, 0)]),
  (30, .isub, 31, 0, []),
  (31, .istore_n 1, 32, 1, []),
  (32, .aload_n 0, 33, 0, []),
  (33, .dup, 34, 0, []),
  (34, .getfield 37, 37, 6, []),
  (37, .iconst 1, 38, 0, [(1, 0)]),
  (38, .iadd, 39, 0, []),
  (39, .putfield 37, 42, 6, []),
  (42, .iinc 2 1, 45, 2, [(1, 0)]),
  (45, .goto (-41), 48, 4, []),
  (48, .aload_n 0, 49, 0, []),
  (49, .iconst 0, 50, 0, [(0, 0)]),
  (50, .iload_n 1, 51, 1, []),
  (51, .invokevirtual 56, 54, 0, []),
  (54, .return_, 55, 0, [])]
def m_Text_readNumber : MI := (⟨"HandOverHorse$Text", "readNumber", "()V"⟩, prog_11_method_12_code, 3, none, p_Text_readNumber, 7)
def p_Text_addStep : List PE := [(0, .aload_n 0, 1, 0, []),
  (1, .getfield 30, 4, 2, []),
  (4, .aload_n 0, 5, 0, []),
  (5, .getfield 9, 8, 0, []),
  (8, .arraylength, 9, 0, []),
  (9, .if_icmp .ge 33, 12, 42, []),
  (12, .aload_n 0, 13, 0, []),
  (13, .getfield 9, 16, 0, []),
  (16, .aload_n 0, 17, 0, []),
  (17, .getfield 30, 20, 2, []),
  (20, .iload_n 1, 21, 1, []),
  (21, .iastore, 22, 0, []),
  (22, .aload_n 0, 23, 0, []),
  (23, .getfield 15, 26, 1, []),
  (26, .aload_n 0, 27, 0, []),
  (27, .getfield 30, 30, 2, []),
  (30, .iload_n 2, 31, 2, []),
  (31, .iastore, 32, 0, []),
  (32, .aload_n 0, 33, 0, []),
  (33, .dup, 34, 0, []),
  (34, .getfield 30, 37, 2, []),
  (37, .iconst 1, 38, 0, [(1, 0)]),
  (38, .iadd, 39, 0, []),
  (39, .putfield 30, 42, 2, []),
  (42, .return_, 43, 0, [])]
def m_Text_addStep : MI := (⟨"HandOverHorse$Text", "addStep", "(II)V"⟩, prog_11_method_13_code, 3, none, p_Text_addStep, 7)
def p_Text_workOut : List PE := [(0, .iconst (-1), 1, 0, [((-1), 0)]),
  (1, .istore 5, 3, 5, []),
  (3, .iconst 0, 4, 0, [(0, 0)]),
  (4, .istore 6, 6, 6, []),
  (6, .iload 6, 8, 6, []),
  (8, .aload_n 0, 9, 0, []),
  (9, .getfield 30, 12, 2, []),
  (12, .if_icmp .ge 158, 15, 170, []),
  (15, .aload_n 0, 16, 0, []),
  (16, .getfield 9, 19, 0, []),
  (19, .iload 6, 21, 6, []),
  (21, .iaload, 22, 0, []),
  (22, .istore 7, 24, 7, []),
  (24, .iload 7, 26, 7, []),
  (26, .ifCond .eq 9, 29, 35, []),
  (29, .iload 7, 31, 7, []),
  (31, .iconst 1, 32, 0, [(1, 0)]),
  (32, .if_icmp .ne 58, 35, 90, []),
  (35, .iload 5, 37, 5, []),
  (37, .aload_n 0, 38, 0, []),
  (38, .getfield 18, 41, 3, []),
  (41, .arraylength, 42, 0, []),
  (42, .iconst 1, 43, 0, [(1, 0)]),
  (43, .isub, 44, 0, []),
  (44, .if_icmp .ge 120, 47, 164, []),
  (47, .iinc 5 1, 50, 5, [(1, 0)]),
  (50, .aload_n 0, 51, 0, []),
  (51, .getfield 18, 54, 3, []),
  (54, .iload 5, 56, 5, []),
  (56, .iload 7, 58, 7, []),
  (58, .ifCond .ne 13, 61, 71, []),
  (61, .aload_n 0, 62, 0, []),
  (62, .getfield 15, 65, 1, []),
  (65, .iload 6, 67, 6, []),
  (67, .iaload, 68, 0, []),
  (68, .goto 18, 71, 86, []),
  (71, .aload_n 0, 72, 0, []),
  (72, .getfield 15, 75, 1, []),
  (75, .iload 6, 77, 6, []),
  (77, .iaload, 78, 0, []),
  (78, .iload_n 1, 79, 1, []),
  (79, .iload_n 2, 80, 2, []),
  (80, .iload_n 3, 81, 3, []),
  (81, .iload 4, 83, 4, []),
  (83, .invokestatic 77, 86, 0, []),
  (86, .iastore, 87, 0, []),
  (87, .goto 77, 90, 164, []),
  (90, .iload 7, 92, 7, []),
  (92, .bipush 33, 94, 0, [(33, 0)]),
  (94, .if_icmp .ne 33, 97, 127, []),
  (97, .iload 5, 99, 5, []),
  (99, .ifCond .lt 65, 102, 164, []),
  (102, .aload_n 0, 103, 0, []),
  (103, .getfield 18, 106, 3, []),
  (106, .iload 5, 108, 5, []),
  (108, .aload_n 0, 109, 0, []),
  (109, .getfield 18, 112, 3, []),
  (112, .iload 5, 114, 5, []),
  (114, .iaload, 115, 0, []),
  (115, .ifCond .ne 7, 118, 122, []),
  (118, .iconst 1, 119, 0, [(1, 0)]),
  (119, .goto 4, 122, 123, []),
  (122, .iconst 0, 123, 0, [(0, 0)]),
  (123, .iastore, 124, 0, []),
  (124, .goto 40, 127, 164, []),
  (127, .iload 5, 129, 5, []),
  (129, .iconst 1, 130, 0, [(1, 0)]),
  (130, .if_icmp .lt 34, 133, 164, []),
  (133, .iinc 5 (-1), 136, 5, [((-1), 0)]),
  (136, .aload_n 0, 137, 0, []),
  (137, .getfield 18, 140, 3, []),
  (140, .iload 5, 142, 5, []),
  (142, .iload 7, 144, 7, []),
  (144, .aload_n 0, 145, 0, []),
  (145, .getfield 18, 148, 3, []),
  (148, .iload 5, 150, 5, []),
  (150, .iaload, 151, 0, []),
  (151, .aload_n 0, 152, 0, []),
  (152, .getfield 18, 155, 3, []),
  (155, .iload 5, 157, 5, []),
  (157, .iconst 1, 158, 0, [(1, 0)]),
  (158, .iadd, 159, 0, []),
  (159, .iaload, 160, 0, []),
  (160, .invokestatic 81, 163, 0, []),
  (163, .iastore, 164, 0, []),
  (164, .iinc 6 1, 167, 6, [(1, 0)]),
  (167, .goto (-161), 170, 6, []),
  (170, .aload_n 0, 171, 0, []),
  (171, .getfield 18, 174, 3, []),
  (174, .iconst 0, 175, 0, [(0, 0)]),
  (175, .iaload, 176, 0, []),
  (176, .ireturn, 177, 0, [])]
def m_Text_workOut : MI := (⟨"HandOverHorse$Text", "workOut", "(IIII)I"⟩, prog_11_method_14_code, 8, (some .int), p_Text_workOut, 7)
def p_Text_named : List PE := [(0, .iload_n 0, 1, 0, []),
  (1, .tableswitch 33 0 2 #[27, 29, 31], 28, 34, [(0, 28), (1, 30), (2, 32)]),
  (28, .iload_n 1, 29, 1, []),
  (29, .ireturn, 30, 0, []),
  (30, .iload_n 2, 31, 2, []),
  (31, .ireturn, 32, 0, []),
  (32, .iload_n 3, 33, 3, []),
  (33, .ireturn, 34, 0, []),
  (34, .iload 4, 36, 4, []),
  (36, .ireturn, 37, 0, [])]
def m_Text_named : MI := (⟨"HandOverHorse$Text", "named", "(IIIII)I"⟩, prog_11_method_15_code, 5, (some .int), p_Text_named, 7)
def p_Text_joined : List PE := [(0, .iload_n 0, 1, 0, []),
  (1, .lookupswitch 168 #[(38, 97), (42, 152), (43, 144), (45, 148), (47, 156), (60, 111), (61, 122), (62, 133), (124, 83)], 84, 169, [(38, 98), (42, 153), (43, 145), (45, 149), (47, 157), (60, 112), (61, 123), (62, 134), (124, 84)]),
  (84, .iload_n 1, 85, 1, []),
  (85, .ifCond .ne 7, 88, 92, []),
  (88, .iload_n 2, 89, 2, []),
  (89, .ifCond .eq 7, 92, 96, []),
  (92, .iconst 1, 93, 0, [(1, 0)]),
  (93, .goto 4, 96, 97, []),
  (96, .iconst 0, 97, 0, [(0, 0)]),
  (97, .ireturn, 98, 0, []),
  (98, .iload_n 1, 99, 1, []),
  (99, .ifCond .eq 11, 102, 110, []),
  (102, .iload_n 2, 103, 2, []),
  (103, .ifCond .eq 7, 106, 110, []),
  (106, .iconst 1, 107, 0, [(1, 0)]),
  (107, .goto 4, 110, 111, []),
  (110, .iconst 0, 111, 0, [(0, 0)]),
  (111, .ireturn, 112, 0, []),
  (112, .iload_n 1, 113, 1, []),
  (113, .iload_n 2, 114, 2, []),
  (114, .if_icmp .ge 7, 117, 121, []),
  (117, .iconst 1, 118, 0, [(1, 0)]),
  (118, .goto 4, 121, 122, []),
  (121, .iconst 0, 122, 0, [(0, 0)]),
  (122, .ireturn, 123, 0, []),
  (123, .iload_n 1, 124, 1, []),
  (124, .iload_n 2, 125, 2, []),
  (125, .if_icmp .ne 7, 128, 132, []),
  (128, .iconst 1, 129, 0, [(1, 0)]),
  (129, .goto 4, 132, 133, []),
  (132, .iconst 0, 133, 0, [(0, 0)]),
  (133, .ireturn, 134, 0, []),
  (134, .iload_n 1, 135, 1, []),
  (135, .iload_n 2, 136, 2, []),
  (136, .if_icmp .le 7, 139, 143, []),
  (139, .iconst 1, 140, 0, [(1, 0)]),
  (140, .goto 4, 143, 144, []),
  (143, .iconst 0, 144, 0, [(0, 0)]),
  (144, .ireturn, 145, 0, []),
  (145, .iload_n 1, 146, 1, []),
  (146, .iload_n 2, 147, 2, []),
  (147, .iadd, 148, 0, []),
  (148, .ireturn, 149, 0, []),
  (149, .iload_n 1, 150, 1, []),
  (150, .iload_n 2, 151, 2, []),
  (151, .isub, 152, 0, []),
  (152, .ireturn, 153, 0, []),
  (153, .iload_n 1, 154, 1, []),
  (154, .iload_n 2, 155, 2, []),
  (155, .imul, 156, 0, []),
  (156, .ireturn, 157, 0, []),
  (157, .iload_n 2, 158, 2, []),
  (158, .ifCond .ne 7, 161, 165, []),
  (161, .iconst 0, 162, 0, [(0, 0)]),
  (162, .goto 6, 165, 168, []),
  (165, .iload_n 1, 166, 1, []),
  (166, .iload_n 2, 167, 2, []),
  (167, .idiv, 168, 0, []),
  (168, .ireturn, 169, 0, []),
  (169, .iload_n 2, 170, 2, []),
  (170, .ifCond .ne 7, 173, 177, []),
  (173, .iconst 0, 174, 0, [(0, 0)]),
  (174, .goto 6, 177, 180, []),
  (177, .iload_n 1, 178, 1, []),
  (178, .iload_n 2, 179, 2, []),
  (179, .irem, 180, 0, []),
  (180, .ireturn, 181, 0, [])]
def m_Text_joined : MI := (⟨"HandOverHorse$Text", "joined", "(III)I"⟩, prog_11_method_16_code, 3, (some .int), p_Text_joined, 7)
def p_Wall_init : List PE := [(0, .aload_n 0, 1, 0, []),
  (1, .invokespecial 3, 4, 0, []),
  (4, .aload_n 0, 5, 0, []),
  (5, .bipush 8, 7, 0, [(8, 0)]),
  (7, .anewarray 9, 10, 0, []),
  (10, .putfield 11, 13, 0, []),
  (13, .iconst 0, 14, 0, [(0, 0)]),
  (14, .istore_n 1, 15, 1, []),
  (15, .iload_n 1, 16, 1, []),
  (16, .bipush 8, 18, 0, [(8, 0)]),
  (18, .if_icmp .ge 22, 21, 40, []),
  (21, .aload_n 0, 22, 0, []),
  (22, .getfield 11, 25, 0, []),
  (25, .iload_n 1, 26, 1, []),
  (26, .new 9, 29, 0, []),
  (29, .dup, 30, 0, []),
  (30, .invokespecial 17, 33, 0, []),
  (33, .aastore, 34, 0, []),
  (34, .iinc 1 1, 37, 1, [(1, 0)]),
  (37, .goto (-22), 40, 15, []),
  (40, .aload_n 0, 41, 0, []),
  (41, .bipush 12, 43, 0, [(12, 0)]),
  (43, .newarray .int, 45, 0, []),
  (45, .putfield 18, 48, 2, []),
  (48, .aload_n 0, 49, 0, []),
  (49, .bipush 12, 51, 0, [(12, 0)]),
  (51, .newarray .int, 53, 0, []),
  (53, .putfield 22, 56, 3, []),
  (56, .aload_n 0, 57, 0, []),
  (57, .bipush 12, 59, 0, [(12, 0)]),
  (59, .newarray .int, 61, 0, []),
  (61, .putfield 25, 64, 4, []),
  (64, .aload_n 0, 65, 0, []),
  (65, .bipush 50, 67, 0, [(50, 0)]),
  (67, .newarray .int, 69, 0, []),
  (69, .putfield 28, 72, 6, []),
  (72, .aload_n 0, 73, 0, []),
  (73, .iconst 2, 74, 0, [(2, 0)]),
  (74, .anewarray 31, 77, 0, []),
  (77, .putfield 33, 80, 8, []),
  (80, .aload_n 0, 81, 0, []),
  (81, .getfield 33, 84, 8, []),
  (84, .iconst 0, 85, 0, [(0, 0)]),
  (85, .new 31, 88, 0, []),
  (88, .dup, 89, 0, []),
  (89, .invokespecial 37, 92, 0, []),
  (92, .aastore, 93, 0, []),
  (93, .aload_n 0, 94, 0, []),
  (94, .getfield 33, 97, 8, []),
  (97, .iconst 1, 98, 0, [(1, 0)]),
  (98, .new 31, 101, 0, []),
  (101, .dup, 102, 0, []),
  (102, .invokespecial 37, 105, 0, []),
  (105, .aastore, 106, 0, []),
  (106, .aload_n 0, 107, 0, []),
  (107, .new 31, 110, 0, []),
  (110, .dup, 111, 0, []),
  (111, .invokespecial 37, 114, 0, []),
  (114, .putfield 38, 117, 9, []),
  (117, .aload_n 0, 118, 0, []),
  (118, .bipush 20, 120, 0, [(20, 0)]),
  (120, .newarray .int, 122, 0, []),
  (122, .putfield 42, 125, 10, []),
  (125, .aload_n 0, 126, 0, []),
  (126, .iconst 1, 127, 0, [(1, 0)]),
  (127, .putfield 45, 130, 12, []),
  (130, .return_, 131, 0, [])]
def m_Wall_init : MI := (⟨"HandOverHorse$Wall", "<init>", "()V"⟩, prog_12_method_1_code, 2, none, p_Wall_init, 8)
def p_Wall_copyFrom : List PE := [(0, .iconst 0, 1, 0, [(0, 0)]),
  (1, .istore_n 2, 2, 2, []),
  (2, .iload_n 2, 3, 2, []),
  (3, .aload_n 1, 4, 1, []),
  (4, .getfield 49, 7, 1, []),
  (7, .if_icmp .ge 38, 10, 45, []),
  (10, .aload_n 0, 11, 0, []),
  (11, .iload_n 2, 12, 2, []),
  (12, .aload_n 1, 13, 1, []),
  (13, .getfield 11, 16, 0, []),
  (16, .iload_n 2, 17, 2, []),
  (17, .aaload, 18, 0, []),
  (18, .invokevirtual 52, 21, 0, []),
  (21, .invokevirtual 56, 24, 0, []),
  (24, .aload_n 0, 25, 0, []),
  (25, .getfield 11, 28, 0, []),
  (28, .iload_n 2, 29, 2, []),
  (29, .aaload, 30, 0, []),
  (30, .aload_n 1, 31, 1, []),
  (31, .getfield 11, 34, 0, []),
  (34, .iload_n 2, 35, 2, []),
  (35, .aaload, 36, 0, []),
  (36, .invokevirtual 60, 39, 0, []),
  (39, .iinc 2 1, 42, 2, [(1, 0)]),
  (42, .goto (-40), 45, 2, []),
  (45, .aload_n 0, 46, 0, []),
  (46, .aload_n 1, 47, 1, []),
  (47, .getfield 49, 50, 1, []),
  (50, .putfield 49, 53, 1, []),
  (53, .iconst 0, 54, 0, [(0, 0)]),
  (54, .istore_n 2, 55, 2, []),
  (55, .iload_n 2, 56, 2, []),
  (56, .aload_n 1, 57, 1, []),
  (57, .getfield 64, 60, 5, []),
  (60, .if_icmp .ge 45, 63, 105, []),
  (63, .aload_n 0, 64, 0, []),
  (64, .getfield 18, 67, 2, []),
  (67, .iload_n 2, 68, 2, []),
  (68, .aload_n 1, 69, 1, []),
  (69, .getfield 18, 72, 2, []),
  (72, .iload_n 2, 73, 2, []),
  (73, .iaload, 74, 0, []),
  (74, .iastore, 75, 0, []),
  (75, .aload_n 0, 76, 0, []),
  (76, .getfield 22, 79, 3, []),
  (79, .iload_n 2, 80, 2, []),
  (80, .aload_n 1, 81, 1, []),
  (81, .getfield 22, 84, 3, []),
  (84, .iload_n 2, 85, 2, []),
  (85, .iaload, 86, 0, []),
  (86, .iastore, 87, 0, []),
  (87, .aload_n 0, 88, 0, []),
  (88, .getfield 25, 91, 4, []),
  (91, .iload_n 2, 92, 2, []),
  (92, .aload_n 1, 93, 1, []),
  (93, .getfield 25, 96, 4, []),
  (96, .iload_n 2, 97, 2, []),
  (97, .iaload, 98, 0, []),
  (98, .iastore, 99, 0, []),
  (99, .iinc 2 1, 102, 2, [(1, 0)]),
  (102, .goto (-47), 105, 55, []),
  (105, .aload_n 0, 106, 0, []),
  (106, .aload_n 1, 107, 1, []),
  (107, .getfield 64, 110, 5, []),
  (110, .putfield 64, 113, 5, []),
  (113, .aload_n 1, 114, 1, []),
  (114, .getfield 28, 117, 6, []),
  (117, .iconst 0, 118, 0, [(0, 0)]),
  (118, .aload_n 0, 119, 0, []),
  (119, .getfield 28, 122, 6, []),
  (122, .iconst 0, 123, 0, [(0, 0)]),
  (123, .bipush 50, 125, 0, [(50, 0)]),
  (125, .invokestatic 67, 128, 0, []),
  (128, .aload_n 0, 129, 0, []),
  (129, .aload_n 1, 130, 1, []),
  (130, .getfield 73, 133, 7, []),
  (133, .putfield 73, 136, 7, []),
  (136, .aload_n 0, 137, 0, []),
  (137, .getfield 33, 140, 8, []),
  (140, .iconst 0, 141, 0, [(0, 0)]),
  (141, .aaload, 142, 0, []),
  (142, .aload_n 1, 143, 1, []),
  (143, .getfield 33, 146, 8, []),
  (146, .iconst 0, 147, 0, [(0, 0)]),
  (147, .aaload, 148, 0, []),
  (148, .invokevirtual 76, 151, 0, []),
  (151, .aload_n 0, 152, 0, []),
  (152, .getfield 33, 155, 8, []),
  (155, .iconst 1, 156, 0, [(1, 0)]),
  (156, .aaload, 157, 0, []),
  (157, .aload_n 1, 158, 1, []),
  (158, .getfield 33, 161, 8, []),
  (161, .iconst 1, 162, 0, [(1, 0)]),
  (162, .aaload, 163, 0, []),
  (163, .invokevirtual 76, 166, 0, []),
  (166, .aload_n 1, 167, 1, []),
  (167, .getfield 42, 170, 10, []),
  (170, .iconst 0, 171, 0, [(0, 0)]),
  (171, .aload_n 0, 172, 0, []),
  (172, .getfield 42, 175, 10, []),
  (175, .iconst 0, 176, 0, [(0, 0)]),
  (176, .bipush 20, 178, 0, [(20, 0)]),
  (178, .invokestatic 67, 181, 0, []),
  (181, .aload_n 0, 182, 0, []),
  (182, .aload_n 1, 183, 1, []),
  (183, .getfield 79, 186, 11, []),
  (186, .putfield 79, 189, 11, []),
  (189, .aload_n 0, 190, 0, []),
  (190, .aload_n 1, 191, 1, []),
  (191, .getfield 45, 194, 12, []),
  (194, .putfield 45, 197, 12, []),
  (197, .return_, 198, 0, [])]
def m_Wall_copyFrom : MI := (⟨"HandOverHorse$Wall", "copyFrom", "(LHandOverHorse$Wall;)V"⟩, prog_12_method_2_code, 3, none, p_Wall_copyFrom, 8)
def p_Wall_within : List PE := [(0, .iload_n 0, 1, 0, []),
  (1, .ifCond .lt 12, 4, 13, []),
  (4, .iload_n 0, 5, 0, []),
  (5, .iload_n 1, 6, 1, []),
  (6, .if_icmp .gt 7, 9, 13, []),
  (9, .iconst 1, 10, 0, [(1, 0)]),
  (10, .goto 4, 13, 14, []),
  (13, .iconst 0, 14, 0, [(0, 0)]),
  (14, .ireturn, 15, 0, [])]
def m_Wall_within : MI := (⟨"HandOverHorse$Wall", "within", "(II)Z"⟩, prog_12_method_3_code, 2, (some .boolean), p_Wall_within, 8)
def p_Wall_held : List PE := [(0, .iload_n 1, 1, 1, []),
  (1, .iload_n 2, 2, 2, []),
  (2, .iload_n 0, 3, 0, []),
  (3, .invokestatic 82, 6, 0, []),
  (6, .invokestatic 88, 9, 0, []),
  (9, .ireturn, 10, 0, [])]
def m_Wall_held : MI := (⟨"HandOverHorse$Wall", "held", "(III)I"⟩, prog_12_method_4_code, 3, (some .int), p_Wall_held, 8)
def p_Wall_far : List PE := [(0, .iload_n 0, 1, 0, []),
  (1, .bipush 6, 3, 0, [(6, 0)]),
  (3, .idiv, 4, 0, []),
  (4, .iload_n 1, 5, 1, []),
  (5, .bipush 6, 7, 0, [(6, 0)]),
  (7, .idiv, 8, 0, []),
  (8, .isub, 9, 0, []),
  (9, .invokestatic 91, 12, 0, []),
  (12, .iload_n 0, 13, 0, []),
  (13, .bipush 6, 15, 0, [(6, 0)]),
  (15, .irem, 16, 0, []),
  (16, .iload_n 1, 17, 1, []),
  (17, .bipush 6, 19, 0, [(6, 0)]),
  (19, .irem, 20, 0, []),
  (20, .isub, 21, 0, []),
  (21, .invokestatic 91, 24, 0, []),
  (24, .iadd, 25, 0, []),
  (25, .ireturn, 26, 0, [])]
def m_Wall_far : MI := (⟨"HandOverHorse$Wall", "far", "(II)I"⟩, prog_12_method_5_code, 2, (some .int), p_Wall_far, 8)
def p_Wall_hasStroke : List PE := [(0, .iload_n 1, 1, 1, []),
  (1, .ifCond .lt 15, 4, 16, []),
  (4, .iload_n 1, 5, 1, []),
  (5, .aload_n 0, 6, 0, []),
  (6, .getfield 49, 9, 1, []),
  (9, .if_icmp .ge 7, 12, 16, []),
  (12, .iconst 1, 13, 0, [(1, 0)]),
  (13, .goto 4, 16, 17, []),
  (16, .iconst 0, 17, 0, [(0, 0)]),
  (17, .ireturn, 18, 0, [])]
def m_Wall_hasStroke : MI := (⟨"HandOverHorse$Wall", "hasStroke", "(I)Z"⟩, prog_12_method_6_code, 2, (some .boolean), p_Wall_hasStroke, 8)
def p_Wall_areTwo : List PE := [(0, .aload_n 0, 1, 0, []),
  (1, .iload_n 1, 2, 1, []),
  (2, .invokevirtual 95, 5, 0, []),
  (5, .ifCond .eq 20, 8, 25, []),
  (8, .aload_n 0, 9, 0, []),
  (9, .iload_n 2, 10, 2, []),
  (10, .invokevirtual 95, 13, 0, []),
  (13, .ifCond .eq 12, 16, 25, []),
  (16, .iload_n 1, 17, 1, []),
  (17, .iload_n 2, 18, 2, []),
  (18, .if_icmp .eq 7, 21, 25, []),
  (21, .iconst 1, 22, 0, [(1, 0)]),
  (22, .goto 4, 25, 26, []),
  (25, .iconst 0, 26, 0, [(0, 0)]),
  (26, .ireturn, 27, 0, [])]
def m_Wall_areTwo : MI := (⟨"HandOverHorse$Wall", "areTwo", "(II)Z"⟩, prog_12_method_7_code, 3, (some .boolean), p_Wall_areTwo, 8)
def p_Wall_blankOfKind : List PE := [(0, .iload_n 0, 1, 0, []),
  (1, .tableswitch 87 1 6 #[39, 47, 55, 63, 71, 79], 40, 88, [(1, 40), (2, 48), (3, 56), (4, 64), (5, 72), (6, 80)]),
  (40, .new 99, 43, 0, []),
  (43, .dup, 44, 0, []),
  (44, .invokespecial 101, 47, 0, []),
  (47, .areturn, 48, 0, []),
  (48, .new 102, 51, 0, []),
  (51, .dup, 52, 0, []),
  (52, .invokespecial 104, 55, 0, []),
  (55, .areturn, 56, 0, []),
  (56, .new 105, 59, 0, []),
  (59, .dup, 60, 0, []),
  (60, .invokespecial 107, 63, 0, []),
  (63, .areturn, 64, 0, []),
  (64, .new 108, 67, 0, []),
  (67, .dup, 68, 0, []),
  (68, .invokespecial 110, 71, 0, []),
  (71, .areturn, 72, 0, []),
  (72, .new 111, 75, 0, []),
  (75, .dup, 76, 0, []),
  (76, .invokespecial 113, 79, 0, []),
  (79, .areturn, 80, 0, []),
  (80, .new 114, 83, 0, []),
  (83, .dup, 84, 0, []),
  (84, .invokespecial 116, 87, 0, []),
  (87, .areturn, 88, 0, []),
  (88, .new 9, 91, 0, []),
  (91, .dup, 92, 0, []),
  (92, .invokespecial 17, 95, 0, []),
  (95, .areturn, 96, 0, [])]
def m_Wall_blankOfKind : MI := (⟨"HandOverHorse$Wall", "blankOfKind", "(I)LHandOverHorse$Stroke;"⟩, prog_12_method_8_code, 1, (some (.object "HandOverHorse$Stroke")), p_Wall_blankOfKind, 8)
def p_Wall_makeOfKind : List PE := [(0, .aload_n 0, 1, 0, []),
  (1, .getfield 11, 4, 0, []),
  (4, .iload_n 1, 5, 1, []),
  (5, .aaload, 6, 0, []),
  (6, .invokevirtual 52, 9, 0, []),
  (9, .iload_n 2, 10, 2, []),
  (10, .if_icmp .eq 25, 13, 35, []),
  (13, .iload_n 2, 14, 2, []),
  (14, .invokestatic 117, 17, 0, []),
  (17, .astore_n 3, 18, 3, []),
  (18, .aload_n 3, 19, 3, []),
  (19, .aload_n 0, 20, 0, []),
  (20, .getfield 11, 23, 0, []),
  (23, .iload_n 1, 24, 1, []),
  (24, .aaload, 25, 0, []),
  (25, .invokevirtual 60, 28, 0, []),
  (28, .aload_n 0, 29, 0, []),
  (29, .getfield 11, 32, 0, []),
  (32, .iload_n 1, 33, 1, []),
  (33, .aload_n 3, 34, 3, []),
  (34, .aastore, 35, 0, []),
  (35, .return_, 36, 0, [])]
def m_Wall_makeOfKind : MI := (⟨"HandOverHorse$Wall", "makeOfKind", "(II)V"⟩, prog_12_method_9_code, 4, none, p_Wall_makeOfKind, 8)
def p_Wall_addStroke : List PE := [(0, .aload_n 0, 1, 0, []),
  (1, .getfield 49, 4, 1, []),
  (4, .istore 4, 6, 4, []),
  (6, .iload_n 1, 7, 1, []),
  (7, .bipush 10, 9, 0, [(10, 0)]),
  (9, .idiv, 10, 0, []),
  (10, .invokestatic 117, 13, 0, []),
  (13, .astore 5, 15, 5, []),
  (15, .aload 5, 17, 5, []),
  (17, .iload 4, 19, 4, []),
  (19, .putfield 121, 22, 0, []),
  (22, .aload 5, 24, 5, []),
  (24, .iload_n 1, 25, 1, []),
  (25, .bipush 10, 27, 0, [(10, 0)]),
  (27, .irem, 28, 0, []),
  (28, .putfield 124, 31, 1, []),
  (31, .aload 5, 33, 5, []),
  (33, .iload_n 2, 34, 2, []),
  (34, .putfield 127, 37, 2, []),
  (37, .aload 5, 39, 5, []),
  (39, .iload_n 3, 40, 3, []),
  (40, .putfield 130, 43, 3, []),
  (43, .aload_n 0, 44, 0, []),
  (44, .getfield 11, 47, 0, []),
  (47, .iload 4, 49, 4, []),
  (49, .aload 5, 51, 5, []),
  (51, .aastore, 52, 0, []),
  (52, .aload_n 0, 53, 0, []),
  (53, .dup, 54, 0, []),
  (54, .getfield 49, 57, 1, []),
  (57, .iconst 1, 58, 0, [(1, 0)]),
  (58, .iadd, 59, 0, []),
  (59, .putfield 49, 62, 1, []),
  (62, .iload 4, 64, 4, []),
  (64, .ireturn, 65, 0, [])]
def m_Wall_addStroke : MI := (⟨"HandOverHorse$Wall", "addStroke", "(III)I"⟩, prog_12_method_10_code, 6, (some .int), p_Wall_addStroke, 8)
def p_Wall_earlyOf : List PE := [(0, .aload_n 0, 1, 0, []),
  (1, .getfield 11, 4, 0, []),
  (4, .iload_n 1, 5, 1, []),
  (5, .aaload, 6, 0, []),
  (6, .invokevirtual 133, 9, 0, []),
  (9, .aload_n 0, 10, 0, []),
  (10, .iload_n 1, 11, 1, []),
  (11, .invokevirtual 136, 14, 0, []),
  (14, .iadd, 15, 0, []),
  (15, .iconst 0, 16, 0, [(0, 0)]),
  (16, .sipush 9999, 19, 0, [(9999, 0)]),
  (19, .invokestatic 139, 22, 0, []),
  (22, .ireturn, 23, 0, [])]
def m_Wall_earlyOf : MI := (⟨"HandOverHorse$Wall", "earlyOf", "(I)I"⟩, prog_12_method_11_code, 2, (some .int), p_Wall_earlyOf, 8)
def p_Wall_lateOf : List PE := [(0, .aload_n 0, 1, 0, []),
  (1, .getfield 11, 4, 0, []),
  (4, .iload_n 1, 5, 1, []),
  (5, .aaload, 6, 0, []),
  (6, .invokevirtual 143, 9, 0, []),
  (9, .aload_n 0, 10, 0, []),
  (10, .iload_n 1, 11, 1, []),
  (11, .invokevirtual 136, 14, 0, []),
  (14, .iadd, 15, 0, []),
  (15, .iconst 0, 16, 0, [(0, 0)]),
  (16, .sipush 9999, 19, 0, [(9999, 0)]),
  (19, .invokestatic 139, 22, 0, []),
  (22, .ireturn, 23, 0, [])]
def m_Wall_lateOf : MI := (⟨"HandOverHorse$Wall", "lateOf", "(I)I"⟩, prog_12_method_12_code, 2, (some .int), p_Wall_lateOf, 8)
def p_Wall_datesOf : List PE := [(0, .aload_n 0, 1, 0, []),
  (1, .getfield 11, 4, 0, []),
  (4, .iload_n 1, 5, 1, []),
  (5, .aaload, 6, 0, []),
  (6, .astore_n 2, 7, 2, []),
  (7, .aload_n 0, 8, 0, []),
  (8, .iconst 0, 9, 0, [(0, 0)]),
  (9, .aload_n 2, 10, 2, []),
  (10, .getfield 146, 13, 6, []),
  (13, .aload_n 2, 14, 2, []),
  (14, .getfield 124, 17, 1, []),
  (17, .aload_n 2, 18, 2, []),
  (18, .invokevirtual 52, 21, 0, []),
  (21, .aload_n 2, 22, 2, []),
  (22, .getfield 130, 25, 3, []),
  (25, .invokevirtual 149, 28, 0, []),
  (28, .ireturn, 29, 0, [])]
def m_Wall_datesOf : MI := (⟨"HandOverHorse$Wall", "datesOf", "(I)I"⟩, prog_12_method_13_code, 3, (some .int), p_Wall_datesOf, 8)
def p_Wall_twoJoin : List PE := [(0, .aload_n 0, 1, 0, []),
  (1, .getfield 11, 4, 0, []),
  (4, .iload_n 1, 5, 1, []),
  (5, .aaload, 6, 0, []),
  (6, .astore_n 3, 7, 3, []),
  (7, .aload_n 0, 8, 0, []),
  (8, .getfield 11, 11, 0, []),
  (11, .iload_n 2, 12, 2, []),
  (12, .aaload, 13, 0, []),
  (13, .astore 4, 15, 4, []),
  (15, .aload_n 3, 16, 3, []),
  (16, .invokevirtual 153, 19, 0, []),
  (19, .aload 4, 21, 4, []),
  (21, .invokevirtual 153, 24, 0, []),
  (24, .if_icmp .ne 50, 27, 74, []),
  (27, .aload_n 3, 28, 3, []),
  (28, .getfield 130, 31, 3, []),
  (31, .aload 4, 33, 4, []),
  (33, .getfield 130, 36, 3, []),
  (36, .isub, 37, 0, []),
  (37, .invokestatic 91, 40, 0, []),
  (40, .bipush 9, 42, 0, [(9, 0)]),
  (42, .if_icmp .gt 32, 45, 74, []),
  (45, .aload_n 3, 46, 3, []),
  (46, .getfield 127, 49, 2, []),
  (49, .aload 4, 51, 4, []),
  (51, .getfield 127, 54, 2, []),
  (54, .invokestatic 156, 57, 0, []),
  (57, .aload_n 3, 58, 3, []),
  (58, .invokevirtual 159, 61, 0, []),
  (61, .aload 4, 63, 4, []),
  (63, .invokevirtual 159, 66, 0, []),
  (66, .iadd, 67, 0, []),
  (67, .if_icmp .gt 7, 70, 74, []),
  (70, .iconst 1, 71, 0, [(1, 0)]),
  (71, .goto 4, 74, 75, []),
  (74, .iconst 0, 75, 0, [(0, 0)]),
  (75, .ireturn, 76, 0, [])]
def m_Wall_twoJoin : MI := (⟨"HandOverHorse$Wall", "twoJoin", "(II)Z"⟩, prog_12_method_14_code, 5, (some .boolean), p_Wall_twoJoin, 8)
def p_Wall_handsFrom : List PE := [(0, .iconst 0, 1, 0, [(0, 0)]),
  (1, .istore_n 2, 2, 2, []),
  (2, .iconst 0, 3, 0, [(0, 0)]),
  (3, .istore_n 3, 4, 3, []),
  (4, .iload_n 3, 5, 3, []),
  (5, .aload_n 0, 6, 0, []),
  (6, .getfield 49, 9, 1, []),
  (9, .if_icmp .ge 44, 12, 53, []),
  (12, .aload_n 0, 13, 0, []),
  (13, .getfield 11, 16, 0, []),
  (16, .iload_n 3, 17, 3, []),
  (17, .aaload, 18, 0, []),
  (18, .getfield 130, 21, 3, []),
  (21, .iload_n 1, 22, 1, []),
  (22, .if_icmp .lt 25, 25, 47, []),
  (25, .aload_n 0, 26, 0, []),
  (26, .getfield 11, 29, 0, []),
  (29, .iload_n 3, 30, 3, []),
  (30, .aaload, 31, 0, []),
  (31, .getfield 130, 34, 3, []),
  (34, .iload_n 1, 35, 1, []),
  (35, .bipush 9, 37, 0, [(9, 0)]),
  (37, .iadd, 38, 0, []),
  (38, .if_icmp .gt 9, 41, 47, []),
  (41, .iload_n 2, 42, 2, []),
  (42, .iconst 1, 43, 0, [(1, 0)]),
  (43, .iload_n 3, 44, 3, []),
  (44, .ishl, 45, 0, []),
  (45, .ior, 46, 0, []),
  (46, .istore_n 2, 47, 2, []),
  (47, .iinc 3 1, 50, 3, [(1, 0)]),
  (50, .goto (-46), 53, 4, []),
  (53, .iload_n 2, 54, 2, []),
  (54, .ireturn, 55, 0, [])]
def m_Wall_handsFrom : MI := (⟨"HandOverHorse$Wall", "handsFrom", "(I)I"⟩, prog_12_method_15_code, 4, (some .int), p_Wall_handsFrom, 8)
def p_Wall_hasLook : List PE := [(0, .iload_n 1, 1, 1, []),
  (1, .ifCond .lt 15, 4, 16, []),
  (4, .iload_n 1, 5, 1, []),
  (5, .aload_n 0, 6, 0, []),
  (6, .getfield 64, 9, 5, []),
  (9, .if_icmp .ge 7, 12, 16, []),
  (12, .iconst 1, 13, 0, [(1, 0)]),
  (13, .goto 4, 16, 17, []),
  (16, .iconst 0, 17, 0, [(0, 0)]),
  (17, .ireturn, 18, 0, [])]
def m_Wall_hasLook : MI := (⟨"HandOverHorse$Wall", "hasLook", "(I)Z"⟩, prog_12_method_16_code, 2, (some .boolean), p_Wall_hasLook, 8)
def p_Wall_isLook : List PE := [(0, .aload_n 0, 1, 0, []),
  (1, .iload_n 1, 2, 1, []),
  (2, .iload_n 2, 3, 2, []),
  (3, .invokevirtual 162, 6, 0, []),
  (6, .ifCond .eq 18, 9, 24, []),
  (9, .iload_n 3, 10, 3, []),
  (10, .iconst 1, 11, 0, [(1, 0)]),
  (11, .if_icmp .lt 13, 14, 24, []),
  (14, .iload_n 3, 15, 3, []),
  (15, .bipush 99, 17, 0, [(99, 0)]),
  (17, .if_icmp .gt 7, 20, 24, []),
  (20, .iconst 1, 21, 0, [(1, 0)]),
  (21, .goto 4, 24, 25, []),
  (24, .iconst 0, 25, 0, [(0, 0)]),
  (25, .ireturn, 26, 0, [])]
def m_Wall_isLook : MI := (⟨"HandOverHorse$Wall", "isLook", "(III)Z"⟩, prog_12_method_17_code, 4, (some .boolean), p_Wall_isLook, 8)
def p_Wall_addLook : List PE := [(0, .aload_n 0, 1, 0, []),
  (1, .getfield 64, 4, 5, []),
  (4, .istore 4, 6, 4, []),
  (6, .aload_n 0, 7, 0, []),
  (7, .getfield 18, 10, 2, []),
  (10, .iload 4, 12, 4, []),
  (12, .iload_n 1, 13, 1, []),
  (13, .iastore, 14, 0, []),
  (14, .aload_n 0, 15, 0, []),
  (15, .getfield 22, 18, 3, []),
  (18, .iload 4, 20, 4, []),
  (20, .iload_n 2, 21, 2, []),
  (21, .iastore, 22, 0, []),
  (22, .aload_n 0, 23, 0, []),
  (23, .getfield 25, 26, 4, []),
  (26, .iload 4, 28, 4, []),
  (28, .iload_n 3, 29, 3, []),
  (29, .iastore, 30, 0, []),
  (30, .aload_n 0, 31, 0, []),
  (31, .dup, 32, 0, []),
  (32, .getfield 64, 35, 5, []),
  (35, .iconst 1, 36, 0, [(1, 0)]),
  (36, .iadd, 37, 0, []),
  (37, .putfield 64, 40, 5, []),
  (40, .iload 4, 42, 4, []),
  (42, .ireturn, 43, 0, [])]
def m_Wall_addLook : MI := (⟨"HandOverHorse$Wall", "addLook", "(III)I"⟩, prog_12_method_18_code, 5, (some .int), p_Wall_addLook, 8)
def p_Wall_turnLook : List PE := [(0, .aload_n 0, 1, 0, []),
  (1, .getfield 18, 4, 2, []),
  (4, .iload_n 1, 5, 1, []),
  (5, .iaload, 6, 0, []),
  (6, .istore_n 2, 7, 2, []),
  (7, .aload_n 0, 8, 0, []),
  (8, .getfield 18, 11, 2, []),
  (11, .iload_n 1, 12, 1, []),
  (12, .aload_n 0, 13, 0, []),
  (13, .getfield 22, 16, 3, []),
  (16, .iload_n 1, 17, 1, []),
  (17, .iaload, 18, 0, []),
  (18, .iastore, 19, 0, []),
  (19, .aload_n 0, 20, 0, []),
  (20, .getfield 22, 23, 3, []),
  (23, .iload_n 1, 24, 1, []),
  (24, .iload_n 2, 25, 2, []),
  (25, .iastore, 26, 0, []),
  (26, .return_, 27, 0, [])]
def m_Wall_turnLook : MI := (⟨"HandOverHorse$Wall", "turnLook", "(I)V"⟩, prog_12_method_19_code, 3, none, p_Wall_turnLook, 8)
def p_Wall_weightOf : List PE := [(0, .aload_n 0, 1, 0, []),
  (1, .getfield 11, 4, 0, []),
  (4, .aload_n 0, 5, 0, []),
  (5, .getfield 18, 8, 2, []),
  (8, .iload_n 1, 9, 1, []),
  (9, .iaload, 10, 0, []),
  (10, .aaload, 11, 0, []),
  (11, .astore_n 2, 12, 2, []),
  (12, .aload_n 0, 13, 0, []),
  (13, .iconst 1, 14, 0, [(1, 0)]),
  (14, .aload_n 0, 15, 0, []),
  (15, .getfield 25, 18, 4, []),
  (18, .iload_n 1, 19, 1, []),
  (19, .iaload, 20, 0, []),
  (20, .aload_n 2, 21, 2, []),
  (21, .invokevirtual 52, 24, 0, []),
  (24, .aload_n 2, 25, 2, []),
  (25, .getfield 146, 28, 6, []),
  (28, .iconst 0, 29, 0, [(0, 0)]),
  (29, .invokevirtual 149, 32, 0, []),
  (32, .ireturn, 33, 0, [])]
def m_Wall_weightOf : MI := (⟨"HandOverHorse$Wall", "weightOf", "(I)I"⟩, prog_12_method_20_code, 3, (some .int), p_Wall_weightOf, 8)
def p_Wall_drawn : List PE := [(0, .aload_n 0, 1, 0, []),
  (1, .aload_n 0, 2, 0, []),
  (2, .getfield 45, 5, 12, []),
  (5, .ldc 166, 7, 1097, [(1103515245, 0)]),
  (7, .imul, 8, 0, []),
  (8, .sipush 12345, 11, 0, [(12345, 0)]),
  (11, .iadd, 12, 0, []),
  (12, .putfield 45, 15, 12, []),
  (15, .aload_n 0, 16, 0, []),
  (16, .getfield 45, 19, 12, []),
  (19, .bipush 8, 21, 0, [(8, 0)]),
  (21, .iushr, 22, 0, []),
  (22, .ireturn, 23, 0, [])]
def m_Wall_drawn : MI := (⟨"HandOverHorse$Wall", "drawn", "()I"⟩, prog_12_method_21_code, 1, (some .int), p_Wall_drawn, 8)
def p_Wall_holdsUpTo : List PE := [(0, .iconst 0, 1, 0, [(0, 0)]),
  (1, .istore_n 3, 2, 3, []),
  (2, .iload_n 3, 3, 3, []),
  (3, .aload_n 0, 4, 0, []),
  (4, .getfield 64, 7, 5, []),
  (7, .if_icmp .ge 49, 10, 56, []),
  (10, .aload_n 0, 11, 0, []),
  (11, .getfield 18, 14, 2, []),
  (14, .iload_n 3, 15, 3, []),
  (15, .iaload, 16, 0, []),
  (16, .aload_n 0, 17, 0, []),
  (17, .getfield 22, 20, 3, []),
  (20, .iload_n 3, 21, 3, []),
  (21, .iaload, 22, 0, []),
  (22, .invokestatic 88, 25, 0, []),
  (25, .iload_n 1, 26, 1, []),
  (26, .if_icmp .ne 24, 29, 50, []),
  (29, .aload_n 2, 30, 2, []),
  (30, .aload_n 0, 31, 0, []),
  (31, .getfield 18, 34, 2, []),
  (34, .iload_n 3, 35, 3, []),
  (35, .iaload, 36, 0, []),
  (36, .iaload, 37, 0, []),
  (37, .aload_n 2, 38, 2, []),
  (38, .aload_n 0, 39, 0, []),
  (39, .getfield 22, 42, 3, []),
  (42, .iload_n 3, 43, 3, []),
  (43, .iaload, 44, 0, []),
  (44, .iaload, 45, 0, []),
  (45, .if_icmp .gt 5, 48, 50, []),
  (48, .iconst 0, 49, 0, [(0, 0)]),
  (49, .ireturn, 50, 0, []),
  (50, .iinc 3 1, 53, 3, [(1, 0)]),
  (53, .goto (-51), 56, 2, []),
  (56, .iconst 1, 57, 0, [(1, 0)]),
  (57, .ireturn, 58, 0, [])]
def m_Wall_holdsUpTo : MI := (⟨"HandOverHorse$Wall", "holdsUpTo", "(I[I)Z"⟩, prog_12_method_22_code, 4, (some .boolean), p_Wall_holdsUpTo, 8)
def p_Wall_addBytes : List PE := [(0, .lload_n 1, 1, 1, []),
  (1, .lstore 4, 3, 4, []),
  (3, .iconst 0, 4, 0, [(0, 0)]),
  (4, .istore 6, 6, 6, []),
  (6, .iload 6, 8, 6, []),
  (8, .iload_n 3, 9, 3, []),
  (9, .if_icmp .ge 42, 12, 51, []),
  (12, .aload_n 0, 13, 0, []),
  (13, .getfield 28, 16, 6, []),
  (16, .aload_n 0, 17, 0, []),
  (17, .getfield 73, 20, 7, []),
  (20, .lload 4, 22, 4, []),
  (22, .ldc2_w 167, 25, 255, [(0, 724)]),
  (25, .land, 26, 0, []),
  (26, .l2i, 27, 0, []),
  (27, .iastore, 28, 0, []),
  (28, .aload_n 0, 29, 0, []),
  (29, .dup, 30, 0, []),
  (30, .getfield 73, 33, 7, []),
  (33, .iconst 1, 34, 0, [(1, 0)]),
  (34, .iadd, 35, 0, []),
  (35, .putfield 73, 38, 7, []),
  (38, .lload 4, 40, 4, []),
  (40, .bipush 8, 42, 0, [(8, 0)]),
  (42, .lushr, 43, 0, []),
  (43, .lstore 4, 45, 4, []),
  (45, .iinc 6 1, 48, 6, [(1, 0)]),
  (48, .goto (-42), 51, 6, []),
  (51, .return_, 52, 0, [])]
def m_Wall_addBytes : MI := (⟨"HandOverHorse$Wall", "addBytes", "(JI)V"⟩, prog_12_method_23_code, 7, none, p_Wall_addBytes, 8)
def p_Wall_readTape : List PE := [(0, .aload_n 0, 1, 0, []),
  (1, .getfield 38, 4, 9, []),
  (4, .aload_n 0, 5, 0, []),
  (5, .getfield 28, 8, 6, []),
  (8, .aload_n 0, 9, 0, []),
  (9, .getfield 73, 12, 7, []),
  (12, .iload_n 1, 13, 1, []),
  (13, .ifCond .ne 8, 16, 21, []),
  (16, .ldc 169, 18, 0, []),
  (18, .goto 5, 21, 23, []),
  (21, .ldc 171, 23, 0, []),
  (23, .invokevirtual 173, 26, 0, []),
  (26, .istore_n 2, 27, 2, []),
  (27, .iload_n 2, 28, 2, []),
  (28, .ifCond .ge 16, 31, 44, []),
  (31, .aload_n 0, 32, 0, []),
  (32, .getfield 33, 35, 8, []),
  (35, .iload_n 1, 36, 1, []),
  (36, .aaload, 37, 0, []),
  (37, .aload_n 0, 38, 0, []),
  (38, .getfield 38, 41, 9, []),
  (41, .invokevirtual 76, 44, 0, []),
  (44, .aload_n 0, 45, 0, []),
  (45, .iconst 0, 46, 0, [(0, 0)]),
  (46, .putfield 73, 49, 7, []),
  (49, .iload_n 2, 50, 2, []),
  (50, .ireturn, 51, 0, [])]
def m_Wall_readTape : MI := (⟨"HandOverHorse$Wall", "readTape", "(I)I"⟩, prog_12_method_24_code, 3, (some .int), p_Wall_readTape, 8)
def p_Wall_givenBy : List PE := [(0, .iload_n 1, 1, 1, []),
  (1, .ifCond .ne 44, 4, 45, []),
  (4, .aload_n 0, 5, 0, []),
  (5, .getfield 33, 8, 8, []),
  (8, .iconst 0, 9, 0, [(0, 0)]),
  (9, .aaload, 10, 0, []),
  (10, .invokevirtual 177, 13, 0, []),
  (13, .ifCond .eq 7, 16, 20, []),
  (16, .iconst 0, 17, 0, [(0, 0)]),
  (17, .goto 27, 20, 44, []),
  (20, .aload_n 0, 21, 0, []),
  (21, .getfield 33, 24, 8, []),
  (24, .iconst 0, 25, 0, [(0, 0)]),
  (25, .aaload, 26, 0, []),
  (26, .iload_n 2, 27, 2, []),
  (27, .iload_n 3, 28, 3, []),
  (28, .iload 4, 30, 4, []),
  (30, .iload 5, 32, 5, []),
  (32, .invokevirtual 181, 35, 0, []),
  (35, .sipush (-999), 38, 0, [((-999), 0)]),
  (38, .sipush 999, 41, 0, [(999, 0)]),
  (41, .invokestatic 139, 44, 0, []),
  (44, .ireturn, 45, 0, []),
  (45, .aload_n 0, 46, 0, []),
  (46, .getfield 33, 49, 8, []),
  (49, .iconst 1, 50, 0, [(1, 0)]),
  (50, .aaload, 51, 0, []),
  (51, .invokevirtual 177, 54, 0, []),
  (54, .ifCond .eq 7, 57, 61, []),
  (57, .iload_n 2, 58, 2, []),
  (58, .goto 18, 61, 76, []),
  (61, .aload_n 0, 62, 0, []),
  (62, .getfield 33, 65, 8, []),
  (65, .iconst 1, 66, 0, [(1, 0)]),
  (66, .aaload, 67, 0, []),
  (67, .iload_n 2, 68, 2, []),
  (68, .iload_n 3, 69, 3, []),
  (69, .iload 4, 71, 4, []),
  (71, .iload 5, 73, 5, []),
  (73, .invokevirtual 181, 76, 0, []),
  (76, .iconst 0, 77, 0, [(0, 0)]),
  (77, .sipush 999, 80, 0, [(999, 0)]),
  (80, .invokestatic 139, 83, 0, []),
  (83, .ireturn, 84, 0, [])]
def m_Wall_givenBy : MI := (⟨"HandOverHorse$Wall", "givenBy", "(IIIII)I"⟩, prog_12_method_25_code, 6, (some .int), p_Wall_givenBy, 8)
def p_Wall_faultOfWaiting : List PE := [(0, .iconst 0, 1, 0, [(0, 0)]),
  (1, .istore_n 1, 2, 1, []),
  (2, .iconst 0, 3, 0, [(0, 0)]),
  (3, .istore_n 2, 4, 2, []),
  (4, .iload_n 2, 5, 2, []),
  (5, .aload_n 0, 6, 0, []),
  (6, .getfield 79, 9, 11, []),
  (9, .if_icmp .ge 49, 12, 58, []),
  (12, .aload_n 0, 13, 0, []),
  (13, .getfield 42, 16, 10, []),
  (16, .iload_n 2, 17, 2, []),
  (17, .iaload, 18, 0, []),
  (18, .istore_n 3, 19, 3, []),
  (19, .aload_n 0, 20, 0, []),
  (20, .iload_n 3, 21, 3, []),
  (21, .invokevirtual 95, 24, 0, []),
  (24, .ifCond .eq 20, 27, 44, []),
  (27, .iload_n 1, 28, 1, []),
  (28, .iload_n 3, 29, 3, []),
  (29, .ishr, 30, 0, []),
  (30, .iconst 1, 31, 0, [(1, 0)]),
  (31, .iand, 32, 0, []),
  (32, .ifCond .ne 12, 35, 44, []),
  (35, .aload_n 0, 36, 0, []),
  (36, .iload_n 1, 37, 1, []),
  (37, .iload_n 3, 38, 3, []),
  (38, .invokevirtual 185, 41, 0, []),
  (41, .ifCond .ne 5, 44, 46, []),
  (44, .iload_n 2, 45, 2, []),
  (45, .ireturn, 46, 0, []),
  (46, .iload_n 1, 47, 1, []),
  (47, .iconst 1, 48, 0, [(1, 0)]),
  (48, .iload_n 3, 49, 3, []),
  (49, .ishl, 50, 0, []),
  (50, .ior, 51, 0, []),
  (51, .istore_n 1, 52, 1, []),
  (52, .iinc 2 1, 55, 2, [(1, 0)]),
  (55, .goto (-51), 58, 4, []),
  (58, .aload_n 0, 59, 0, []),
  (59, .getfield 79, 62, 11, []),
  (62, .aload_n 0, 63, 0, []),
  (63, .getfield 49, 66, 1, []),
  (66, .if_icmp .ge 10, 69, 76, []),
  (69, .aload_n 0, 70, 0, []),
  (70, .getfield 79, 73, 11, []),
  (73, .goto 4, 76, 77, []),
  (76, .iconst (-1), 77, 0, [((-1), 0)]),
  (77, .ireturn, 78, 0, [])]
def m_Wall_faultOfWaiting : MI := (⟨"HandOverHorse$Wall", "faultOfWaiting", "()I"⟩, prog_12_method_26_code, 4, (some .int), p_Wall_faultOfWaiting, 8)
def p_Wall_allBelowAre : List PE := [(0, .iconst 0, 1, 0, [(0, 0)]),
  (1, .istore_n 3, 2, 3, []),
  (2, .iload_n 3, 3, 3, []),
  (3, .aload_n 0, 4, 0, []),
  (4, .getfield 64, 7, 5, []),
  (7, .if_icmp .ge 34, 10, 41, []),
  (10, .aload_n 0, 11, 0, []),
  (11, .getfield 18, 14, 2, []),
  (14, .iload_n 3, 15, 3, []),
  (15, .iaload, 16, 0, []),
  (16, .iload_n 2, 17, 2, []),
  (17, .if_icmp .ne 18, 20, 35, []),
  (20, .iload_n 1, 21, 1, []),
  (21, .aload_n 0, 22, 0, []),
  (22, .getfield 22, 25, 3, []),
  (25, .iload_n 3, 26, 3, []),
  (26, .iaload, 27, 0, []),
  (27, .ishr, 28, 0, []),
  (28, .iconst 1, 29, 0, [(1, 0)]),
  (29, .iand, 30, 0, []),
  (30, .ifCond .ne 5, 33, 35, []),
  (33, .iconst 0, 34, 0, [(0, 0)]),
  (34, .ireturn, 35, 0, []),
  (35, .iinc 3 1, 38, 3, [(1, 0)]),
  (38, .goto (-36), 41, 2, []),
  (41, .iconst 1, 42, 0, [(1, 0)]),
  (42, .ireturn, 43, 0, [])]
def m_Wall_allBelowAre : MI := (⟨"HandOverHorse$Wall", "allBelowAre", "(II)Z"⟩, prog_12_method_27_code, 4, (some .boolean), p_Wall_allBelowAre, 8)
def p_H_init : List PE := [(0, .aload_n 0, 1, 0, []),
  (1, .invokespecial 1, 4, 0, []),
  (4, .aload_n 0, 5, 0, []),
  (5, .new 7, 8, 0, []),
  (8, .dup, 9, 0, []),
  (9, .invokespecial 9, 12, 0, []),
  (12, .putfield 10, 15, 0, []),
  (15, .aload_n 0, 16, 0, []),
  (16, .new 7, 19, 0, []),
  (19, .dup, 20, 0, []),
  (20, .invokespecial 9, 23, 0, []),
  (23, .putfield 16, 26, 1, []),
  (26, .aload_n 0, 27, 0, []),
  (27, .new 19, 30, 0, []),
  (30, .dup, 31, 0, []),
  (31, .invokespecial 21, 34, 0, []),
  (34, .putfield 22, 37, 2, []),
  (37, .aload_n 0, 38, 0, []),
  (38, .new 26, 41, 0, []),
  (41, .dup, 42, 0, []),
  (42, .invokespecial 28, 45, 0, []),
  (45, .putfield 29, 48, 3, []),
  (48, .aload_n 0, 49, 0, []),
  (49, .iconst 4, 50, 0, [(4, 0)]),
  (50, .bipush 40, 52, 0, [(40, 0)]),
  (52, .multianewarray 33 2, 56, 0, []),
  (56, .putfield 35, 59, 4, []),
  (59, .aload_n 0, 60, 0, []),
  (60, .iconst 4, 61, 0, [(4, 0)]),
  (61, .newarray .int, 63, 0, []),
  (63, .putfield 38, 66, 5, []),
  (66, .aload_n 0, 67, 0, []),
  (67, .iconst 4, 68, 0, [(4, 0)]),
  (68, .newarray .int, 70, 0, []),
  (70, .putfield 42, 73, 6, []),
  (73, .aload_n 0, 74, 0, []),
  (74, .bipush 41, 76, 0, [(41, 0)]),
  (76, .newarray .int, 78, 0, []),
  (78, .putfield 45, 81, 7, []),
  (81, .aload_n 0, 82, 0, []),
  (82, .bipush 6, 84, 0, [(6, 0)]),
  (84, .newarray .int, 86, 0, []),
  (86, .putfield 48, 89, 8, []),
  (89, .aload_n 0, 90, 0, []),
  (90, .iconst 0, 91, 0, [(0, 0)]),
  (91, .putfield 51, 94, 9, []),
  (94, .return_, 95, 0, [])]
def m_H_init : MI := (⟨"HandOverHorse", "<init>", "()V"⟩, prog_1_method_1_code, 1, none, p_H_init, 11)
def p_H_error : List PE := [(0, .aload_n 0, 1, 0, []),
  (1, .getfield 48, 4, 8, []),
  (4, .iload_n 1, 5, 1, []),
  (5, .dup2, 6, 0, []),
  (6, .iaload, 7, 0, []),
  (7, .iconst 1, 8, 0, [(1, 0)]),
  (8, .iadd, 9, 0, []),
  (9, .iastore, 10, 0, []),
  (10, .ldc 55, 12, 366, [((-1000000000), 0)]),
  (12, .iload_n 1, 13, 1, []),
  (13, .isub, 14, 0, []),
  (14, .ireturn, 15, 0, [])]
def m_H_error : MI := (⟨"HandOverHorse", "error", "(I)I"⟩, prog_1_method_2_code, 2, (some .int), p_H_error, 11)
def p_H_stroke : List PE := [(0, .iload_n 1, 1, 1, []),
  (1, .bipush 69, 3, 0, [(69, 0)]),
  (3, .invokestatic 56, 6, 0, []),
  (6, .ifCond .eq 21, 9, 27, []),
  (9, .iload_n 2, 10, 2, []),
  (10, .bipush 35, 12, 0, [(35, 0)]),
  (12, .invokestatic 56, 15, 0, []),
  (15, .ifCond .eq 12, 18, 27, []),
  (18, .iload_n 3, 19, 3, []),
  (19, .bipush 99, 21, 0, [(99, 0)]),
  (21, .invokestatic 56, 24, 0, []),
  (24, .ifCond .ne 9, 27, 33, []),
  (27, .aload_n 0, 28, 0, []),
  (28, .iconst 1, 29, 0, [(1, 0)]),
  (29, .invokevirtual 60, 32, 0, []),
  (32, .ireturn, 33, 0, []),
  (33, .aload_n 0, 34, 0, []),
  (34, .getfield 10, 37, 0, []),
  (37, .getfield 64, 40, 1, []),
  (40, .bipush 8, 42, 0, [(8, 0)]),
  (42, .if_icmp .lt 9, 45, 51, []),
  (45, .aload_n 0, 46, 0, []),
  (46, .iconst 4, 47, 0, [(4, 0)]),
  (47, .invokevirtual 60, 50, 0, []),
  (50, .ireturn, 51, 0, []),
  (51, .aload_n 0, 52, 0, []),
  (52, .getfield 10, 55, 0, []),
  (55, .iload_n 1, 56, 1, []),
  (56, .iload_n 2, 57, 2, []),
  (57, .iload_n 3, 58, 3, []),
  (58, .invokevirtual 67, 61, 0, []),
  (61, .ireturn, 62, 0, [])]
def m_H_stroke : MI := (⟨"HandOverHorse", "stroke", "(III)I"⟩, prog_1_method_3_code, 4, (some .int), p_H_stroke, 11)
def p_H_ofStroke : List PE := [(0, .aload_n 0, 1, 0, []),
  (1, .getfield 10, 4, 0, []),
  (4, .iload_n 1, 5, 1, []),
  (5, .invokevirtual 71, 8, 0, []),
  (8, .ifCond .ne 9, 11, 17, []),
  (11, .aload_n 0, 12, 0, []),
  (12, .iconst 1, 13, 0, [(1, 0)]),
  (13, .invokevirtual 60, 16, 0, []),
  (16, .ireturn, 17, 0, []),
  (17, .iload_n 2, 18, 2, []),
  (18, .tableswitch 112 0 9 #[54, 67, 67, 67, 67, 67, 67, 81, 90, 99], 72, 130, [(0, 72), (1, 85), (2, 85), (3, 85), (4, 85), (5, 85), (6, 85), (7, 99), (8, 108), (9, 117)]),
  (72, .aload_n 0, 73, 0, []),
  (73, .getfield 10, 76, 0, []),
  (76, .getfield 75, 79, 0, []),
  (79, .iload_n 1, 80, 1, []),
  (80, .aaload, 81, 0, []),
  (81, .invokevirtual 79, 84, 0, []),
  (84, .ireturn, 85, 0, []),
  (85, .aload_n 0, 86, 0, []),
  (86, .getfield 10, 89, 0, []),
  (89, .getfield 75, 92, 0, []),
  (92, .iload_n 1, 93, 1, []),
  (93, .aaload, 94, 0, []),
  (94, .iload_n 2, 95, 2, []),
  (95, .invokevirtual 85, 98, 0, []),
  (98, .ireturn, 99, 0, []),
  (99, .aload_n 0, 100, 0, []),
  (100, .getfield 10, 103, 0, []),
  (103, .iload_n 1, 104, 1, []),
  (104, .invokevirtual 88, 107, 0, []),
  (107, .ireturn, 108, 0, []),
  (108, .aload_n 0, 109, 0, []),
  (109, .getfield 10, 112, 0, []),
  (112, .iload_n 1, 113, 1, []),
  (113, .invokevirtual 91, 116, 0, []),
  (116, .ireturn, 117, 0, []),
  (117, .aload_n 0, 118, 0, []),
  (118, .getfield 10, 121, 0, []),
  (121, .getfield 75, 124, 0, []),
  (124, .iload_n 1, 125, 1, []),
  (125, .aaload, 126, 0, []),
  (126, .invokevirtual 94, 129, 0, []),
  (129, .ireturn, 130, 0, []),
  (130, .aload_n 0, 131, 0, []),
  (131, .iconst 1, 132, 0, [(1, 0)]),
  (132, .invokevirtual 60, 135, 0, []),
  (135, .ireturn, 136, 0, [])]
def m_H_ofStroke : MI := (⟨"HandOverHorse", "ofStroke", "(II)I"⟩, prog_1_method_4_code, 3, (some .int), p_H_ofStroke, 11)
def p_H_change : List PE := [(0, .aload_n 0, 1, 0, []),
  (1, .getfield 10, 4, 0, []),
  (4, .iload_n 1, 5, 1, []),
  (5, .invokevirtual 71, 8, 0, []),
  (8, .ifCond .eq 27, 11, 35, []),
  (11, .iload_n 2, 12, 2, []),
  (12, .ifCond .lt 23, 15, 35, []),
  (15, .iload_n 2, 16, 2, []),
  (16, .getstatic 97, 19, 0, []),
  (19, .arraylength, 20, 0, []),
  (20, .if_icmp .ge 15, 23, 35, []),
  (23, .iload_n 3, 24, 3, []),
  (24, .getstatic 97, 27, 0, []),
  (27, .iload_n 2, 28, 2, []),
  (28, .iaload, 29, 0, []),
  (29, .invokestatic 56, 32, 0, []),
  (32, .ifCond .ne 9, 35, 41, []),
  (35, .aload_n 0, 36, 0, []),
  (36, .iconst 1, 37, 0, [(1, 0)]),
  (37, .invokevirtual 60, 40, 0, []),
  (40, .ireturn, 41, 0, []),
  (41, .aload_n 0, 42, 0, []),
  (42, .getfield 10, 45, 0, []),
  (45, .getfield 75, 48, 0, []),
  (48, .iload_n 1, 49, 1, []),
  (49, .aaload, 50, 0, []),
  (50, .iload_n 2, 51, 2, []),
  (51, .invokevirtual 85, 54, 0, []),
  (54, .istore 4, 56, 4, []),
  (56, .aload_n 0, 57, 0, []),
  (57, .getfield 10, 60, 0, []),
  (60, .getfield 75, 63, 0, []),
  (63, .iload_n 1, 64, 1, []),
  (64, .aaload, 65, 0, []),
  (65, .iload_n 2, 66, 2, []),
  (66, .iload_n 3, 67, 3, []),
  (67, .invokevirtual 100, 70, 0, []),
  (70, .iload 4, 72, 4, []),
  (72, .ireturn, 73, 0, [])]
def m_H_change : MI := (⟨"HandOverHorse", "change", "(III)I"⟩, prog_1_method_5_code, 5, (some .int), p_H_change, 11)
def p_H_become : List PE := [(0, .aload_n 0, 1, 0, []),
  (1, .getfield 10, 4, 0, []),
  (4, .iload_n 1, 5, 1, []),
  (5, .invokevirtual 71, 8, 0, []),
  (8, .ifCond .eq 12, 11, 20, []),
  (11, .iload_n 2, 12, 2, []),
  (12, .bipush 69, 14, 0, [(69, 0)]),
  (14, .invokestatic 56, 17, 0, []),
  (17, .ifCond .ne 9, 20, 26, []),
  (20, .aload_n 0, 21, 0, []),
  (21, .iconst 1, 22, 0, [(1, 0)]),
  (22, .invokevirtual 60, 25, 0, []),
  (25, .ireturn, 26, 0, []),
  (26, .aload_n 0, 27, 0, []),
  (27, .getfield 10, 30, 0, []),
  (30, .getfield 75, 33, 0, []),
  (33, .iload_n 1, 34, 1, []),
  (34, .aaload, 35, 0, []),
  (35, .invokevirtual 79, 38, 0, []),
  (38, .istore_n 3, 39, 3, []),
  (39, .aload_n 0, 40, 0, []),
  (40, .getfield 10, 43, 0, []),
  (43, .iload_n 1, 44, 1, []),
  (44, .iload_n 2, 45, 2, []),
  (45, .bipush 10, 47, 0, [(10, 0)]),
  (47, .idiv, 48, 0, []),
  (48, .invokevirtual 104, 51, 0, []),
  (51, .aload_n 0, 52, 0, []),
  (52, .getfield 10, 55, 0, []),
  (55, .getfield 75, 58, 0, []),
  (58, .iload_n 1, 59, 1, []),
  (59, .aaload, 60, 0, []),
  (60, .iload_n 2, 61, 2, []),
  (61, .bipush 10, 63, 0, [(10, 0)]),
  (63, .irem, 64, 0, []),
  (64, .putfield 107, 67, 1, []),
  (67, .iload_n 3, 68, 3, []),
  (68, .ireturn, 69, 0, [])]
def m_H_become : MI := (⟨"HandOverHorse", "become", "(II)I"⟩, prog_1_method_6_code, 4, (some .int), p_H_become, 11)
def p_H_as : List PE := [(0, .aload_n 0, 1, 0, []),
  (1, .getfield 10, 4, 0, []),
  (4, .iload_n 1, 5, 1, []),
  (5, .invokevirtual 71, 8, 0, []),
  (8, .ifCond .eq 12, 11, 20, []),
  (11, .iload_n 2, 12, 2, []),
  (12, .bipush 6, 14, 0, [(6, 0)]),
  (14, .invokestatic 56, 17, 0, []),
  (17, .ifCond .ne 9, 20, 26, []),
  (20, .aload_n 0, 21, 0, []),
  (21, .iconst 1, 22, 0, [(1, 0)]),
  (22, .invokevirtual 60, 25, 0, []),
  (25, .ireturn, 26, 0, []),
  (26, .aload_n 0, 27, 0, []),
  (27, .getfield 10, 30, 0, []),
  (30, .getfield 75, 33, 0, []),
  (33, .iload_n 1, 34, 1, []),
  (34, .aaload, 35, 0, []),
  (35, .iload_n 2, 36, 2, []),
  (36, .invokevirtual 110, 39, 0, []),
  (39, .ifCond .eq 18, 42, 57, []),
  (42, .aload_n 0, 43, 0, []),
  (43, .getfield 10, 46, 0, []),
  (46, .getfield 75, 49, 0, []),
  (49, .iload_n 1, 50, 1, []),
  (50, .aaload, 51, 0, []),
  (51, .getfield 107, 54, 1, []),
  (54, .goto 8, 57, 62, []),
  (57, .aload_n 0, 58, 0, []),
  (58, .iconst 5, 59, 0, [(5, 0)]),
  (59, .invokevirtual 60, 62, 0, []),
  (62, .ireturn, 63, 0, [])]
def m_H_as : MI := (⟨"HandOverHorse", "as", "(II)I"⟩, prog_1_method_7_code, 3, (some .int), p_H_as, 11)
def p_H_over : List PE := [(0, .aload_n 0, 1, 0, []),
  (1, .getfield 10, 4, 0, []),
  (4, .iload_n 1, 5, 1, []),
  (5, .iload_n 2, 6, 2, []),
  (6, .iload_n 3, 7, 3, []),
  (7, .invokevirtual 113, 10, 0, []),
  (10, .ifCond .ne 9, 13, 19, []),
  (13, .aload_n 0, 14, 0, []),
  (14, .iconst 1, 15, 0, [(1, 0)]),
  (15, .invokevirtual 60, 18, 0, []),
  (18, .ireturn, 19, 0, []),
  (19, .aload_n 0, 20, 0, []),
  (20, .getfield 10, 23, 0, []),
  (23, .getfield 117, 26, 5, []),
  (26, .bipush 12, 28, 0, [(12, 0)]),
  (28, .if_icmp .lt 9, 31, 37, []),
  (31, .aload_n 0, 32, 0, []),
  (32, .iconst 4, 33, 0, [(4, 0)]),
  (33, .invokevirtual 60, 36, 0, []),
  (36, .ireturn, 37, 0, []),
  (37, .aload_n 0, 38, 0, []),
  (38, .getfield 10, 41, 0, []),
  (41, .iload_n 1, 42, 1, []),
  (42, .iload_n 2, 43, 2, []),
  (43, .iload_n 3, 44, 3, []),
  (44, .invokevirtual 120, 47, 0, []),
  (47, .ireturn, 48, 0, [])]
def m_H_over : MI := (⟨"HandOverHorse", "over", "(III)I"⟩, prog_1_method_8_code, 4, (some .int), p_H_over, 11)
def p_H_ofLook : List PE := [(0, .aload_n 0, 1, 0, []),
  (1, .getfield 10, 4, 0, []),
  (4, .iload_n 1, 5, 1, []),
  (5, .invokevirtual 123, 8, 0, []),
  (8, .ifCond .ne 9, 11, 17, []),
  (11, .aload_n 0, 12, 0, []),
  (12, .iconst 1, 13, 0, [(1, 0)]),
  (13, .invokevirtual 60, 16, 0, []),
  (16, .ireturn, 17, 0, []),
  (17, .iload_n 2, 18, 2, []),
  (18, .tableswitch 69 0 3 #[30, 40, 50, 60], 48, 87, [(0, 48), (1, 58), (2, 68), (3, 78)]),
  (48, .aload_n 0, 49, 0, []),
  (49, .getfield 10, 52, 0, []),
  (52, .getfield 126, 55, 2, []),
  (55, .iload_n 1, 56, 1, []),
  (56, .iaload, 57, 0, []),
  (57, .ireturn, 58, 0, []),
  (58, .aload_n 0, 59, 0, []),
  (59, .getfield 10, 62, 0, []),
  (62, .getfield 129, 65, 3, []),
  (65, .iload_n 1, 66, 1, []),
  (66, .iaload, 67, 0, []),
  (67, .ireturn, 68, 0, []),
  (68, .aload_n 0, 69, 0, []),
  (69, .getfield 10, 72, 0, []),
  (72, .getfield 132, 75, 4, []),
  (75, .iload_n 1, 76, 1, []),
  (76, .iaload, 77, 0, []),
  (77, .ireturn, 78, 0, []),
  (78, .aload_n 0, 79, 0, []),
  (79, .getfield 10, 82, 0, []),
  (82, .iload_n 1, 83, 1, []),
  (83, .invokevirtual 135, 86, 0, []),
  (86, .ireturn, 87, 0, []),
  (87, .aload_n 0, 88, 0, []),
  (88, .iconst 1, 89, 0, [(1, 0)]),
  (89, .invokevirtual 60, 92, 0, []),
  (92, .ireturn, 93, 0, [])]
def m_H_ofLook : MI := (⟨"HandOverHorse", "ofLook", "(II)I"⟩, prog_1_method_9_code, 3, (some .int), p_H_ofLook, 11)
def p_H_see : List PE := [(0, .aload_n 0, 1, 0, []),
  (1, .getfield 10, 4, 0, []),
  (4, .iload_n 1, 5, 1, []),
  (5, .invokevirtual 123, 8, 0, []),
  (8, .ifCond .eq 14, 11, 22, []),
  (11, .iload_n 2, 12, 2, []),
  (12, .iconst 1, 13, 0, [(1, 0)]),
  (13, .if_icmp .lt 9, 16, 22, []),
  (16, .iload_n 2, 17, 2, []),
  (17, .bipush 99, 19, 0, [(99, 0)]),
  (19, .if_icmp .le 9, 22, 28, []),
  (22, .aload_n 0, 23, 0, []),
  (23, .iconst 1, 24, 0, [(1, 0)]),
  (24, .invokevirtual 60, 27, 0, []),
  (27, .ireturn, 28, 0, []),
  (28, .aload_n 0, 29, 0, []),
  (29, .getfield 10, 32, 0, []),
  (32, .getfield 132, 35, 4, []),
  (35, .iload_n 1, 36, 1, []),
  (36, .iaload, 37, 0, []),
  (37, .istore_n 3, 38, 3, []),
  (38, .aload_n 0, 39, 0, []),
  (39, .getfield 10, 42, 0, []),
  (42, .getfield 132, 45, 4, []),
  (45, .iload_n 1, 46, 1, []),
  (46, .iload_n 2, 47, 2, []),
  (47, .iastore, 48, 0, []),
  (48, .iload_n 3, 49, 3, []),
  (49, .ireturn, 50, 0, [])]
def m_H_see : MI := (⟨"HandOverHorse", "see", "(II)I"⟩, prog_1_method_10_code, 4, (some .int), p_H_see, 11)
def p_H_forget : List PE := [(0, .aload_n 0, 1, 0, []),
  (1, .getfield 10, 4, 0, []),
  (4, .getfield 117, 7, 5, []),
  (7, .ifCond .ne 9, 10, 16, []),
  (10, .aload_n 0, 11, 0, []),
  (11, .iconst 3, 12, 0, [(3, 0)]),
  (12, .invokevirtual 60, 15, 0, []),
  (15, .ireturn, 16, 0, []),
  (16, .aload_n 0, 17, 0, []),
  (17, .getfield 10, 20, 0, []),
  (20, .dup, 21, 0, []),
  (21, .getfield 117, 24, 5, []),
  (24, .iconst 1, 25, 0, [(1, 0)]),
  (25, .isub, 26, 0, []),
  (26, .putfield 117, 29, 5, []),
  (29, .aload_n 0, 30, 0, []),
  (30, .getfield 10, 33, 0, []),
  (33, .getfield 117, 36, 5, []),
  (36, .ireturn, 37, 0, [])]
def m_H_forget : MI := (⟨"HandOverHorse", "forget", "()I"⟩, prog_1_method_11_code, 1, (some .int), p_H_forget, 11)
def p_H_feed : List PE := [(0, .iload_n 3, 1, 3, []),
  (1, .iconst 1, 2, 0, [(1, 0)]),
  (2, .if_icmp .lt 9, 5, 11, []),
  (5, .iload_n 3, 6, 3, []),
  (6, .bipush 8, 8, 0, [(8, 0)]),
  (8, .if_icmp .le 9, 11, 17, []),
  (11, .aload_n 0, 12, 0, []),
  (12, .iconst 1, 13, 0, [(1, 0)]),
  (13, .invokevirtual 60, 16, 0, []),
  (16, .ireturn, 17, 0, []),
  (17, .aload_n 0, 18, 0, []),
  (18, .getfield 10, 21, 0, []),
  (21, .getfield 138, 24, 7, []),
  (24, .iload_n 3, 25, 3, []),
  (25, .iadd, 26, 0, []),
  (26, .bipush 50, 28, 0, [(50, 0)]),
  (28, .if_icmp .le 9, 31, 37, []),
  (31, .aload_n 0, 32, 0, []),
  (32, .iconst 4, 33, 0, [(4, 0)]),
  (33, .invokevirtual 60, 36, 0, []),
  (36, .ireturn, 37, 0, []),
  (37, .aload_n 0, 38, 0, []),
  (38, .getfield 10, 41, 0, []),
  (41, .lload_n 1, 42, 1, []),
  (42, .iload_n 3, 43, 3, []),
  (43, .invokevirtual 141, 46, 0, []),
  (46, .aload_n 0, 47, 0, []),
  (47, .getfield 10, 50, 0, []),
  (50, .getfield 138, 53, 7, []),
  (53, .ireturn, 54, 0, [])]
def m_H_feed : MI := (⟨"HandOverHorse", "feed", "(JI)I"⟩, prog_1_method_12_code, 4, (some .int), p_H_feed, 11)
def p_H_text : List PE := [(0, .iload_n 1, 1, 1, []),
  (1, .iconst 1, 2, 0, [(1, 0)]),
  (2, .invokestatic 56, 5, 0, []),
  (5, .ifCond .ne 9, 8, 14, []),
  (8, .aload_n 0, 9, 0, []),
  (9, .iconst 1, 10, 0, [(1, 0)]),
  (10, .invokevirtual 60, 13, 0, []),
  (13, .ireturn, 14, 0, []),
  (14, .aload_n 0, 15, 0, []),
  (15, .getfield 10, 18, 0, []),
  (18, .iload_n 1, 19, 1, []),
  (19, .invokevirtual 145, 22, 0, []),
  (22, .istore_n 2, 23, 2, []),
  (23, .iload_n 2, 24, 2, []),
  (24, .ifCond .ge 7, 27, 31, []),
  (27, .iconst 1, 28, 0, [(1, 0)]),
  (28, .goto 7, 31, 35, []),
  (31, .bipush (-10), 33, 0, [((-10), 0)]),
  (33, .iload_n 2, 34, 2, []),
  (34, .isub, 35, 0, []),
  (35, .ireturn, 36, 0, [])]
def m_H_text : MI := (⟨"HandOverHorse", "text", "(I)I"⟩, prog_1_method_13_code, 3, (some .int), p_H_text, 11)
def p_H_law : List PE := [(0, .iload_n 1, 1, 1, []),
  (1, .iconst 1, 2, 0, [(1, 0)]),
  (2, .invokestatic 56, 5, 0, []),
  (5, .ifCond .ne 9, 8, 14, []),
  (8, .aload_n 0, 9, 0, []),
  (9, .iconst 1, 10, 0, [(1, 0)]),
  (10, .invokevirtual 60, 13, 0, []),
  (13, .ireturn, 14, 0, []),
  (14, .aload_n 0, 15, 0, []),
  (15, .getfield 10, 18, 0, []),
  (18, .iload_n 1, 19, 1, []),
  (19, .iload_n 2, 20, 2, []),
  (20, .iload_n 3, 21, 3, []),
  (21, .iload 4, 23, 4, []),
  (23, .iload 5, 25, 5, []),
  (25, .invokevirtual 148, 28, 0, []),
  (28, .ireturn, 29, 0, [])]
def m_H_law : MI := (⟨"HandOverHorse", "law", "(IIIII)I"⟩, prog_1_method_14_code, 6, (some .int), p_H_law, 11)
def p_H_orders : List PE := [(0, .aload_n 0, 1, 0, []),
  (1, .getfield 22, 4, 2, []),
  (4, .aload_n 0, 5, 0, []),
  (5, .getfield 10, 8, 0, []),
  (8, .invokevirtual 152, 11, 0, []),
  (11, .ireturn, 12, 0, [])]
def m_H_orders : MI := (⟨"HandOverHorse", "orders", "()I"⟩, prog_1_method_15_code, 1, (some .int), p_H_orders, 11)
def p_H_sure : List PE := [(0, .aload_n 0, 1, 0, []),
  (1, .getfield 10, 4, 0, []),
  (4, .iload_n 1, 5, 1, []),
  (5, .iload_n 2, 6, 2, []),
  (6, .invokevirtual 156, 9, 0, []),
  (9, .ifCond .ne 9, 12, 18, []),
  (12, .aload_n 0, 13, 0, []),
  (13, .iconst 1, 14, 0, [(1, 0)]),
  (14, .invokevirtual 60, 17, 0, []),
  (17, .ireturn, 18, 0, []),
  (18, .aload_n 0, 19, 0, []),
  (19, .getfield 22, 22, 2, []),
  (22, .aload_n 0, 23, 0, []),
  (23, .getfield 10, 26, 0, []),
  (26, .iload_n 1, 27, 1, []),
  (27, .iload_n 2, 28, 2, []),
  (28, .invokevirtual 159, 31, 0, []),
  (31, .ireturn, 32, 0, [])]
def m_H_sure : MI := (⟨"HandOverHorse", "sure", "(II)I"⟩, prog_1_method_16_code, 3, (some .int), p_H_sure, 11)
def p_H_wrong : List PE := [(0, .iload_n 1, 1, 1, []),
  (1, .iconst 1, 2, 0, [(1, 0)]),
  (2, .invokestatic 56, 5, 0, []),
  (5, .ifCond .ne 9, 8, 14, []),
  (8, .aload_n 0, 9, 0, []),
  (9, .iconst 1, 10, 0, [(1, 0)]),
  (10, .invokevirtual 60, 13, 0, []),
  (13, .ireturn, 14, 0, []),
  (14, .aload_n 0, 15, 0, []),
  (15, .getfield 22, 18, 2, []),
  (18, .aload_n 0, 19, 0, []),
  (19, .getfield 10, 22, 0, []),
  (22, .invokevirtual 163, 25, 0, []),
  (25, .iload_n 1, 26, 1, []),
  (26, .ifCond .ne 13, 29, 39, []),
  (29, .aload_n 0, 30, 0, []),
  (30, .getfield 22, 33, 2, []),
  (33, .invokevirtual 167, 36, 0, []),
  (36, .goto 14, 39, 50, []),
  (39, .aload_n 0, 40, 0, []),
  (40, .getfield 22, 43, 2, []),
  (43, .aload_n 0, 44, 0, []),
  (44, .getfield 10, 47, 0, []),
  (47, .invokevirtual 170, 50, 0, []),
  (50, .ireturn, 51, 0, [])]
def m_H_wrong : MI := (⟨"HandOverHorse", "wrong", "(I)I"⟩, prog_1_method_17_code, 2, (some .int), p_H_wrong, 11)
def p_H_best : List PE := [(0, .aload_n 0, 1, 0, []),
  (1, .getfield 10, 4, 0, []),
  (4, .iload_n 1, 5, 1, []),
  (5, .invokevirtual 71, 8, 0, []),
  (8, .ifCond .ne 9, 11, 17, []),
  (11, .aload_n 0, 12, 0, []),
  (12, .iconst 1, 13, 0, [(1, 0)]),
  (13, .invokevirtual 60, 16, 0, []),
  (16, .ireturn, 17, 0, []),
  (17, .aload_n 0, 18, 0, []),
  (18, .getfield 22, 21, 2, []),
  (21, .aload_n 0, 22, 0, []),
  (22, .getfield 10, 25, 0, []),
  (25, .invokevirtual 163, 28, 0, []),
  (28, .aload_n 0, 29, 0, []),
  (29, .getfield 22, 32, 2, []),
  (32, .getfield 173, 35, 0, []),
  (35, .iload_n 1, 36, 1, []),
  (36, .iaload, 37, 0, []),
  (37, .ireturn, 38, 0, [])]
def m_H_best : MI := (⟨"HandOverHorse", "best", "(I)I"⟩, prog_1_method_18_code, 2, (some .int), p_H_best, 11)
def p_H_span : List PE := [(0, .aload_n 0, 1, 0, []),
  (1, .getfield 10, 4, 0, []),
  (4, .iload_n 1, 5, 1, []),
  (5, .invokevirtual 71, 8, 0, []),
  (8, .ifCond .eq 11, 11, 19, []),
  (11, .iload_n 2, 12, 2, []),
  (12, .iconst 1, 13, 0, [(1, 0)]),
  (13, .invokestatic 56, 16, 0, []),
  (16, .ifCond .ne 9, 19, 25, []),
  (19, .aload_n 0, 20, 0, []),
  (20, .iconst 1, 21, 0, [(1, 0)]),
  (21, .invokevirtual 60, 24, 0, []),
  (24, .ireturn, 25, 0, []),
  (25, .aload_n 0, 26, 0, []),
  (26, .getfield 29, 29, 3, []),
  (29, .aload_n 0, 30, 0, []),
  (30, .getfield 10, 33, 0, []),
  (33, .invokevirtual 176, 36, 0, []),
  (36, .aload_n 0, 37, 0, []),
  (37, .getfield 29, 40, 3, []),
  (40, .aload_n 0, 41, 0, []),
  (41, .getfield 10, 44, 0, []),
  (44, .invokevirtual 179, 47, 0, []),
  (47, .ifCond .ne 9, 50, 56, []),
  (50, .aload_n 0, 51, 0, []),
  (51, .iconst 2, 52, 0, [(2, 0)]),
  (52, .invokevirtual 60, 55, 0, []),
  (55, .ireturn, 56, 0, []),
  (56, .iload_n 2, 57, 2, []),
  (57, .ifCond .ne 15, 60, 72, []),
  (60, .aload_n 0, 61, 0, []),
  (61, .getfield 29, 64, 3, []),
  (64, .getfield 183, 67, 0, []),
  (67, .iload_n 1, 68, 1, []),
  (68, .iaload, 69, 0, []),
  (69, .goto 12, 72, 81, []),
  (72, .aload_n 0, 73, 0, []),
  (73, .getfield 29, 76, 3, []),
  (76, .getfield 186, 79, 1, []),
  (79, .iload_n 1, 80, 1, []),
  (80, .iaload, 81, 0, []),
  (81, .ireturn, 82, 0, [])]
def m_H_span : MI := (⟨"HandOverHorse", "span", "(II)I"⟩, prog_1_method_19_code, 3, (some .int), p_H_span, 11)
def p_H_test : List PE := [(0, .aload_n 0, 1, 0, []),
  (1, .getfield 10, 4, 0, []),
  (4, .iload_n 1, 5, 1, []),
  (5, .invokevirtual 71, 8, 0, []),
  (8, .ifCond .eq 13, 11, 21, []),
  (11, .iload_n 2, 12, 2, []),
  (12, .sipush 9999, 15, 0, [(9999, 0)]),
  (15, .invokestatic 56, 18, 0, []),
  (18, .ifCond .ne 9, 21, 27, []),
  (21, .aload_n 0, 22, 0, []),
  (22, .iconst 1, 23, 0, [(1, 0)]),
  (23, .invokevirtual 60, 26, 0, []),
  (26, .ireturn, 27, 0, []),
  (27, .aload_n 0, 28, 0, []),
  (28, .getfield 29, 31, 3, []),
  (31, .aload_n 0, 32, 0, []),
  (32, .getfield 10, 35, 0, []),
  (35, .invokevirtual 176, 38, 0, []),
  (38, .aload_n 0, 39, 0, []),
  (39, .getfield 29, 42, 3, []),
  (42, .aload_n 0, 43, 0, []),
  (43, .getfield 10, 46, 0, []),
  (46, .iload_n 1, 47, 1, []),
  (47, .iload_n 2, 48, 2, []),
  (48, .invokevirtual 189, 51, 0, []),
  (51, .istore_n 3, 52, 3, []),
  (52, .iload_n 3, 53, 3, []),
  (53, .ifCond .ge 11, 56, 64, []),
  (56, .aload_n 0, 57, 0, []),
  (57, .iconst 2, 58, 0, [(2, 0)]),
  (58, .invokevirtual 60, 61, 0, []),
  (61, .goto 4, 64, 65, []),
  (64, .iload_n 3, 65, 3, []),
  (65, .ireturn, 66, 0, [])]
def m_H_test : MI := (⟨"HandOverHorse", "test", "(II)I"⟩, prog_1_method_20_code, 4, (some .int), p_H_test, 11)
def p_H_next : List PE := [(0, .iload_n 1, 1, 1, []),
  (1, .iconst 1, 2, 0, [(1, 0)]),
  (2, .invokestatic 56, 5, 0, []),
  (5, .ifCond .ne 9, 8, 14, []),
  (8, .aload_n 0, 9, 0, []),
  (9, .iconst 1, 10, 0, [(1, 0)]),
  (10, .invokevirtual 60, 13, 0, []),
  (13, .ireturn, 14, 0, []),
  (14, .aload_n 0, 15, 0, []),
  (15, .getfield 29, 18, 3, []),
  (18, .aload_n 0, 19, 0, []),
  (19, .getfield 10, 22, 0, []),
  (22, .invokevirtual 176, 25, 0, []),
  (25, .aload_n 0, 26, 0, []),
  (26, .getfield 10, 29, 0, []),
  (29, .getfield 64, 32, 1, []),
  (32, .ifCond .eq 17, 35, 49, []),
  (35, .aload_n 0, 36, 0, []),
  (36, .getfield 29, 39, 3, []),
  (39, .aload_n 0, 40, 0, []),
  (40, .getfield 10, 43, 0, []),
  (43, .invokevirtual 192, 46, 0, []),
  (46, .ifCond .ne 9, 49, 55, []),
  (49, .aload_n 0, 50, 0, []),
  (50, .iconst 2, 51, 0, [(2, 0)]),
  (51, .invokevirtual 60, 54, 0, []),
  (54, .ireturn, 55, 0, []),
  (55, .iload_n 1, 56, 1, []),
  (56, .ifCond .ne 13, 59, 69, []),
  (59, .aload_n 0, 60, 0, []),
  (60, .getfield 29, 63, 3, []),
  (63, .getfield 195, 66, 2, []),
  (66, .goto 10, 69, 76, []),
  (69, .aload_n 0, 70, 0, []),
  (70, .getfield 29, 73, 3, []),
  (73, .getfield 198, 76, 3, []),
  (76, .ireturn, 77, 0, [])]
def m_H_next : MI := (⟨"HandOverHorse", "next", "(I)I"⟩, prog_1_method_21_code, 2, (some .int), p_H_next, 11)
def p_H_join : List PE := [(0, .aload_n 0, 1, 0, []),
  (1, .getfield 10, 4, 0, []),
  (4, .iload_n 1, 5, 1, []),
  (5, .iload_n 2, 6, 2, []),
  (6, .invokevirtual 156, 9, 0, []),
  (9, .ifCond .ne 9, 12, 18, []),
  (12, .aload_n 0, 13, 0, []),
  (13, .iconst 1, 14, 0, [(1, 0)]),
  (14, .invokevirtual 60, 17, 0, []),
  (17, .ireturn, 18, 0, []),
  (18, .aload_n 0, 19, 0, []),
  (19, .getfield 10, 22, 0, []),
  (22, .iload_n 1, 23, 1, []),
  (23, .iload_n 2, 24, 2, []),
  (24, .invokevirtual 201, 27, 0, []),
  (27, .ifCond .eq 7, 30, 34, []),
  (30, .iconst 1, 31, 0, [(1, 0)]),
  (31, .goto 4, 34, 35, []),
  (34, .iconst 0, 35, 0, [(0, 0)]),
  (35, .ireturn, 36, 0, [])]
def m_H_join : MI := (⟨"HandOverHorse", "join", "(II)I"⟩, prog_1_method_22_code, 3, (some .int), p_H_join, 11)
def p_H_joinings : List PE := [(0, .iload_n 1, 1, 1, []),
  (1, .iconst 1, 2, 0, [(1, 0)]),
  (2, .invokestatic 56, 5, 0, []),
  (5, .ifCond .ne 9, 8, 14, []),
  (8, .aload_n 0, 9, 0, []),
  (9, .iconst 1, 10, 0, [(1, 0)]),
  (10, .invokevirtual 60, 13, 0, []),
  (13, .ireturn, 14, 0, []),
  (14, .aload_n 0, 15, 0, []),
  (15, .getfield 22, 18, 2, []),
  (18, .aload_n 0, 19, 0, []),
  (19, .getfield 10, 22, 0, []),
  (22, .invokevirtual 204, 25, 0, []),
  (25, .iload_n 1, 26, 1, []),
  (26, .ifCond .ne 17, 29, 43, []),
  (29, .aload_n 0, 30, 0, []),
  (30, .getfield 22, 33, 2, []),
  (33, .aload_n 0, 34, 0, []),
  (34, .getfield 10, 37, 0, []),
  (37, .invokevirtual 207, 40, 0, []),
  (40, .goto 14, 43, 54, []),
  (43, .aload_n 0, 44, 0, []),
  (44, .getfield 22, 47, 2, []),
  (47, .aload_n 0, 48, 0, []),
  (48, .getfield 10, 51, 0, []),
  (51, .invokevirtual 210, 54, 0, []),
  (54, .ireturn, 55, 0, [])]
def m_H_joinings : MI := (⟨"HandOverHorse", "joinings", "(I)I"⟩, prog_1_method_23_code, 2, (some .int), p_H_joinings, 11)
def p_H_times : List PE := [(0, .iload_n 1, 1, 1, []),
  (1, .iconst 1, 2, 0, [(1, 0)]),
  (2, .invokestatic 56, 5, 0, []),
  (5, .ifCond .ne 9, 8, 14, []),
  (8, .aload_n 0, 9, 0, []),
  (9, .iconst 1, 10, 0, [(1, 0)]),
  (10, .invokevirtual 60, 13, 0, []),
  (13, .ireturn, 14, 0, []),
  (14, .aload_n 0, 15, 0, []),
  (15, .getfield 22, 18, 2, []),
  (18, .aload_n 0, 19, 0, []),
  (19, .getfield 10, 22, 0, []),
  (22, .invokevirtual 213, 25, 0, []),
  (25, .ifCond .ne 9, 28, 34, []),
  (28, .aload_n 0, 29, 0, []),
  (29, .iconst 2, 30, 0, [(2, 0)]),
  (30, .invokevirtual 60, 33, 0, []),
  (33, .ireturn, 34, 0, []),
  (34, .iload_n 1, 35, 1, []),
  (35, .ifCond .ne 13, 38, 48, []),
  (38, .aload_n 0, 39, 0, []),
  (39, .getfield 22, 42, 2, []),
  (42, .invokevirtual 216, 45, 0, []),
  (45, .goto 14, 48, 59, []),
  (48, .aload_n 0, 49, 0, []),
  (49, .getfield 22, 52, 2, []),
  (52, .aload_n 0, 53, 0, []),
  (53, .getfield 10, 56, 0, []),
  (56, .invokevirtual 219, 59, 0, []),
  (59, .ireturn, 60, 0, [])]
def m_H_times : MI := (⟨"HandOverHorse", "times", "(I)I"⟩, prog_1_method_24_code, 2, (some .int), p_H_times, 11)
def p_H_lamp : List PE := [(0, .iload_n 1, 1, 1, []),
  (1, .bipush 35, 3, 0, [(35, 0)]),
  (3, .invokestatic 56, 6, 0, []),
  (6, .ifCond .eq 12, 9, 18, []),
  (9, .iload_n 2, 10, 2, []),
  (10, .bipush 10, 12, 0, [(10, 0)]),
  (12, .invokestatic 56, 15, 0, []),
  (15, .ifCond .ne 9, 18, 24, []),
  (18, .aload_n 0, 19, 0, []),
  (19, .iconst 1, 20, 0, [(1, 0)]),
  (20, .invokevirtual 60, 23, 0, []),
  (23, .ireturn, 24, 0, []),
  (24, .iconst 0, 25, 0, [(0, 0)]),
  (25, .istore_n 3, 26, 3, []),
  (26, .iconst 0, 27, 0, [(0, 0)]),
  (27, .istore 4, 29, 4, []),
  (29, .iload 4, 31, 4, []),
  (31, .aload_n 0, 32, 0, []),
  (32, .getfield 10, 35, 0, []),
  (35, .getfield 64, 38, 1, []),
  (38, .if_icmp .ge 37, 41, 75, []),
  (41, .aload_n 0, 42, 0, []),
  (42, .getfield 10, 45, 0, []),
  (45, .getfield 75, 48, 0, []),
  (48, .iload 4, 50, 4, []),
  (50, .aaload, 51, 0, []),
  (51, .getfield 222, 54, 2, []),
  (54, .iload_n 1, 55, 1, []),
  (55, .invokestatic 225, 58, 0, []),
  (58, .iload_n 2, 59, 2, []),
  (59, .if_icmp .gt 10, 62, 69, []),
  (62, .iload_n 3, 63, 3, []),
  (63, .iconst 1, 64, 0, [(1, 0)]),
  (64, .iload 4, 66, 4, []),
  (66, .ishl, 67, 0, []),
  (67, .ior, 68, 0, []),
  (68, .istore_n 3, 69, 3, []),
  (69, .iinc 4 1, 72, 4, [(1, 0)]),
  (72, .goto (-43), 75, 29, []),
  (75, .iload_n 3, 76, 3, []),
  (76, .ireturn, 77, 0, [])]
def m_H_lamp : MI := (⟨"HandOverHorse", "lamp", "(II)I"⟩, prog_1_method_25_code, 5, (some .int), p_H_lamp, 11)
def p_H_hand : List PE := [(0, .iload_n 1, 1, 1, []),
  (1, .bipush 99, 3, 0, [(99, 0)]),
  (3, .invokestatic 56, 6, 0, []),
  (6, .ifCond .ne 9, 9, 15, []),
  (9, .aload_n 0, 10, 0, []),
  (10, .iconst 1, 11, 0, [(1, 0)]),
  (11, .invokevirtual 60, 14, 0, []),
  (14, .ireturn, 15, 0, []),
  (15, .iconst 0, 16, 0, [(0, 0)]),
  (16, .istore_n 2, 17, 2, []),
  (17, .iload_n 1, 18, 1, []),
  (18, .bipush 9, 20, 0, [(9, 0)]),
  (20, .isub, 21, 0, []),
  (21, .istore_n 3, 22, 3, []),
  (22, .iload_n 3, 23, 3, []),
  (23, .iload_n 1, 24, 1, []),
  (24, .if_icmp .gt 50, 27, 74, []),
  (27, .aload_n 0, 28, 0, []),
  (28, .getfield 10, 31, 0, []),
  (31, .iload_n 3, 32, 3, []),
  (32, .invokevirtual 229, 35, 0, []),
  (35, .istore 4, 37, 4, []),
  (37, .iload 4, 39, 4, []),
  (39, .invokestatic 232, 42, 0, []),
  (42, .iload_n 2, 43, 2, []),
  (43, .invokestatic 232, 46, 0, []),
  (46, .isub, 47, 0, []),
  (47, .istore 5, 49, 5, []),
  (49, .iload 5, 51, 5, []),
  (51, .ifCond .gt 14, 54, 65, []),
  (54, .iload 5, 56, 5, []),
  (56, .ifCond .ne 12, 59, 68, []),
  (59, .iload 4, 61, 4, []),
  (61, .iload_n 2, 62, 2, []),
  (62, .if_icmp .ge 6, 65, 68, []),
  (65, .iload 4, 67, 4, []),
  (67, .istore_n 2, 68, 2, []),
  (68, .iinc 3 1, 71, 3, [(1, 0)]),
  (71, .goto (-49), 74, 22, []),
  (74, .iload_n 2, 75, 2, []),
  (75, .ireturn, 76, 0, [])]
def m_H_hand : MI := (⟨"HandOverHorse", "hand", "(I)I"⟩, prog_1_method_26_code, 6, (some .int), p_H_hand, 11)
def p_H_again : List PE := [(0, .iconst 0, 1, 0, [(0, 0)]),
  (1, .istore_n 1, 2, 1, []),
  (2, .iconst 0, 3, 0, [(0, 0)]),
  (3, .istore_n 2, 4, 2, []),
  (4, .iload_n 2, 5, 2, []),
  (5, .aload_n 0, 6, 0, []),
  (6, .getfield 10, 9, 0, []),
  (9, .getfield 117, 12, 5, []),
  (12, .if_icmp .ge 42, 15, 54, []),
  (15, .aload_n 0, 16, 0, []),
  (16, .getfield 10, 19, 0, []),
  (19, .invokevirtual 237, 22, 0, []),
  (22, .bipush 100, 24, 0, [(100, 0)]),
  (24, .irem, 25, 0, []),
  (25, .aload_n 0, 26, 0, []),
  (26, .getfield 10, 29, 0, []),
  (29, .getfield 132, 32, 4, []),
  (32, .iload_n 2, 33, 2, []),
  (33, .iaload, 34, 0, []),
  (34, .if_icmp .lt 14, 37, 48, []),
  (37, .aload_n 0, 38, 0, []),
  (38, .getfield 10, 41, 0, []),
  (41, .iload_n 2, 42, 2, []),
  (42, .invokevirtual 240, 45, 0, []),
  (45, .iinc 1 1, 48, 1, [(1, 0)]),
  (48, .iinc 2 1, 51, 2, [(1, 0)]),
  (51, .goto (-47), 54, 4, []),
  (54, .iload_n 1, 55, 1, []),
  (55, .ireturn, 56, 0, [])]
def m_H_again : MI := (⟨"HandOverHorse", "again", "()I"⟩, prog_1_method_27_code, 3, (some .int), p_H_again, 11)
def p_H_seed : List PE := [(0, .aload_n 0, 1, 0, []),
  (1, .getfield 10, 4, 0, []),
  (4, .getfield 244, 7, 12, []),
  (7, .istore_n 2, 8, 2, []),
  (8, .aload_n 0, 9, 0, []),
  (9, .getfield 10, 12, 0, []),
  (12, .iload_n 1, 13, 1, []),
  (13, .putfield 244, 16, 12, []),
  (16, .iload_n 2, 17, 2, []),
  (17, .ireturn, 18, 0, [])]
def m_H_seed : MI := (⟨"HandOverHorse", "seed", "(I)I"⟩, prog_1_method_28_code, 3, (some .int), p_H_seed, 11)
def p_H_voice : List PE := [(0, .aload_n 0, 1, 0, []),
  (1, .getfield 10, 4, 0, []),
  (4, .iload_n 1, 5, 1, []),
  (5, .invokevirtual 71, 8, 0, []),
  (8, .ifCond .eq 11, 11, 19, []),
  (11, .iload_n 2, 12, 2, []),
  (12, .iconst 3, 13, 0, [(3, 0)]),
  (13, .invokestatic 56, 16, 0, []),
  (16, .ifCond .ne 9, 19, 25, []),
  (19, .aload_n 0, 20, 0, []),
  (20, .iconst 1, 21, 0, [(1, 0)]),
  (21, .invokevirtual 60, 24, 0, []),
  (24, .ireturn, 25, 0, []),
  (25, .aload_n 0, 26, 0, []),
  (26, .getfield 45, 29, 7, []),
  (29, .iconst 0, 30, 0, [(0, 0)]),
  (30, .iconst 0, 31, 0, [(0, 0)]),
  (31, .iastore, 32, 0, []),
  (32, .iload_n 2, 33, 2, []),
  (33, .tableswitch 81 0 2 #[27, 45, 63], 60, 114, [(0, 60), (1, 78), (2, 96)]),
  (60, .aload_n 0, 61, 0, []),
  (61, .getfield 10, 64, 0, []),
  (64, .getfield 75, 67, 0, []),
  (67, .iload_n 1, 68, 1, []),
  (68, .aaload, 69, 0, []),
  (69, .aload_n 0, 70, 0, []),
  (70, .getfield 45, 73, 7, []),
  (73, .iload_n 3, 74, 3, []),
  (74, .invokevirtual 247, 77, 0, []),
  (77, .ireturn, 78, 0, []),
  (78, .aload_n 0, 79, 0, []),
  (79, .getfield 10, 82, 0, []),
  (82, .getfield 75, 85, 0, []),
  (85, .iload_n 1, 86, 1, []),
  (86, .aaload, 87, 0, []),
  (87, .aload_n 0, 88, 0, []),
  (88, .getfield 45, 91, 7, []),
  (91, .iload_n 3, 92, 3, []),
  (92, .invokevirtual 251, 95, 0, []),
  (95, .ireturn, 96, 0, []),
  (96, .aload_n 0, 97, 0, []),
  (97, .getfield 10, 100, 0, []),
  (100, .getfield 75, 103, 0, []),
  (103, .iload_n 1, 104, 1, []),
  (104, .aaload, 105, 0, []),
  (105, .aload_n 0, 106, 0, []),
  (106, .getfield 45, 109, 7, []),
  (109, .iload_n 3, 110, 3, []),
  (110, .invokevirtual 254, 113, 0, []),
  (113, .ireturn, 114, 0, []),
  (114, .aload_n 0, 115, 0, []),
  (115, .getfield 10, 118, 0, []),
  (118, .getfield 75, 121, 0, []),
  (121, .iload_n 1, 122, 1, []),
  (122, .aaload, 123, 0, []),
  (123, .aload_n 0, 124, 0, []),
  (124, .getfield 45, 127, 7, []),
  (127, .iload_n 3, 128, 3, []),
  (128, .invokevirtual 257, 131, 0, []),
  (131, .ireturn, 132, 0, [])]
def m_H_voice : MI := (⟨"HandOverHorse", "voice", "(III)I"⟩, prog_1_method_29_code, 4, (some .int), p_H_voice, 11)
def p_H_trace : List PE := [(0, .iload_n 1, 1, 1, []),
  (1, .ifCond .lt 19, 4, 20, []),
  (4, .iload_n 1, 5, 1, []),
  (5, .aload_n 0, 6, 0, []),
  (6, .getfield 45, 9, 7, []),
  (9, .iconst 0, 10, 0, [(0, 0)]),
  (10, .iaload, 11, 0, []),
  (11, .if_icmp .ge 9, 14, 20, []),
  (14, .iload_n 1, 15, 1, []),
  (15, .bipush 40, 17, 0, [(40, 0)]),
  (17, .if_icmp .lt 9, 20, 26, []),
  (20, .aload_n 0, 21, 0, []),
  (21, .iconst 2, 22, 0, [(2, 0)]),
  (22, .invokevirtual 60, 25, 0, []),
  (25, .ireturn, 26, 0, []),
  (26, .aload_n 0, 27, 0, []),
  (27, .getfield 45, 30, 7, []),
  (30, .iload_n 1, 31, 1, []),
  (31, .iconst 1, 32, 0, [(1, 0)]),
  (32, .iadd, 33, 0, []),
  (33, .iaload, 34, 0, []),
  (34, .ireturn, 35, 0, [])]
def m_H_trace : MI := (⟨"HandOverHorse", "trace", "(I)I"⟩, prog_1_method_30_code, 2, (some .int), p_H_trace, 11)
def p_H_isSheet : List PE := [(0, .iload_n 0, 1, 0, []),
  (1, .iconst 3, 2, 0, [(3, 0)]),
  (2, .invokestatic 56, 5, 0, []),
  (5, .ireturn, 6, 0, [])]
def m_H_isSheet : MI := (⟨"HandOverHorse", "isSheet", "(I)Z"⟩, prog_1_method_31_code, 1, (some .boolean), p_H_isSheet, 11)
def p_H_areBits : List PE := [(0, .iload_n 0, 1, 0, []),
  (1, .ifCond .eq 21, 4, 22, []),
  (4, .iload_n 0, 5, 0, []),
  (5, .bipush 8, 7, 0, [(8, 0)]),
  (7, .if_icmp .eq 15, 10, 22, []),
  (10, .iload_n 0, 11, 0, []),
  (11, .bipush 16, 13, 0, [(16, 0)]),
  (13, .if_icmp .eq 9, 16, 22, []),
  (16, .iload_n 0, 17, 0, []),
  (17, .bipush 32, 19, 0, [(32, 0)]),
  (19, .if_icmp .ne 7, 22, 26, []),
  (22, .iconst 1, 23, 0, [(1, 0)]),
  (23, .goto 4, 26, 27, []),
  (26, .iconst 0, 27, 0, [(0, 0)]),
  (27, .ireturn, 28, 0, [])]
def m_H_areBits : MI := (⟨"HandOverHorse", "areBits", "(I)Z"⟩, prog_1_method_32_code, 1, (some .boolean), p_H_areBits, 11)
def p_H_sheet : List PE := [(0, .iload_n 1, 1, 1, []),
  (1, .invokestatic 260, 4, 0, []),
  (4, .ifCond .eq 10, 7, 14, []),
  (7, .iload_n 2, 8, 2, []),
  (8, .invokestatic 263, 11, 0, []),
  (11, .ifCond .ne 9, 14, 20, []),
  (14, .aload_n 0, 15, 0, []),
  (15, .iconst 1, 16, 0, [(1, 0)]),
  (16, .invokevirtual 60, 19, 0, []),
  (19, .ireturn, 20, 0, []),
  (20, .iload_n 2, 21, 2, []),
  (21, .ifCond .eq 13, 24, 34, []),
  (24, .iload_n 3, 25, 3, []),
  (25, .ifCond .ge 9, 28, 34, []),
  (28, .aload_n 0, 29, 0, []),
  (29, .iconst 3, 30, 0, [(3, 0)]),
  (30, .invokevirtual 60, 33, 0, []),
  (33, .ireturn, 34, 0, []),
  (34, .iload_n 2, 35, 2, []),
  (35, .ifCond .eq 15, 38, 50, []),
  (38, .iload_n 3, 39, 3, []),
  (39, .bipush 40, 41, 0, [(40, 0)]),
  (41, .if_icmp .le 9, 44, 50, []),
  (44, .aload_n 0, 45, 0, []),
  (45, .iconst 1, 46, 0, [(1, 0)]),
  (46, .invokevirtual 60, 49, 0, []),
  (49, .ireturn, 50, 0, []),
  (50, .aload_n 0, 51, 0, []),
  (51, .getfield 38, 54, 5, []),
  (54, .iload_n 1, 55, 1, []),
  (55, .iload_n 2, 56, 2, []),
  (56, .iastore, 57, 0, []),
  (57, .aload_n 0, 58, 0, []),
  (58, .getfield 42, 61, 6, []),
  (61, .iload_n 1, 62, 1, []),
  (62, .iload_n 2, 63, 2, []),
  (63, .ifCond .ne 7, 66, 70, []),
  (66, .iconst 0, 67, 0, [(0, 0)]),
  (67, .goto 4, 70, 71, []),
  (70, .iload_n 3, 71, 3, []),
  (71, .iastore, 72, 0, []),
  (72, .iconst 0, 73, 0, [(0, 0)]),
  (73, .istore 4, 75, 4, []),
  (75, .iload 4, 77, 4, []),
  (77, .bipush 40, 79, 0, [(40, 0)]),
  (79, .if_icmp .ge 19, 82, 98, []),
  (82, .aload_n 0, 83, 0, []),
  (83, .getfield 35, 86, 4, []),
  (86, .iload_n 1, 87, 1, []),
  (87, .aaload, 88, 0, []),
  (88, .iload 4, 90, 4, []),
  (90, .iconst 0, 91, 0, [(0, 0)]),
  (91, .iastore, 92, 0, []),
  (92, .iinc 4 1, 95, 4, [(1, 0)]),
  (95, .goto (-20), 98, 75, []),
  (98, .iconst 1, 99, 0, [(1, 0)]),
  (99, .ireturn, 100, 0, [])]
def m_H_sheet : MI := (⟨"HandOverHorse", "sheet", "(III)I"⟩, prog_1_method_33_code, 5, (some .int), p_H_sheet, 11)
def p_H_put : List PE := [(0, .iload_n 1, 1, 1, []),
  (1, .invokestatic 260, 4, 0, []),
  (4, .ifCond .ne 9, 7, 13, []),
  (7, .aload_n 0, 8, 0, []),
  (8, .iconst 1, 9, 0, [(1, 0)]),
  (9, .invokevirtual 60, 12, 0, []),
  (12, .ireturn, 13, 0, []),
  (13, .aload_n 0, 14, 0, []),
  (14, .getfield 38, 17, 5, []),
  (17, .iload_n 1, 18, 1, []),
  (18, .iaload, 19, 0, []),
  (19, .ifCond .ne 9, 22, 28, []),
  (22, .aload_n 0, 23, 0, []),
  (23, .iconst 2, 24, 0, [(2, 0)]),
  (24, .invokevirtual 60, 27, 0, []),
  (27, .ireturn, 28, 0, []),
  (28, .iload_n 2, 29, 2, []),
  (29, .ifCond .lt 13, 32, 42, []),
  (32, .iload_n 2, 33, 2, []),
  (33, .aload_n 0, 34, 0, []),
  (34, .getfield 42, 37, 6, []),
  (37, .iload_n 1, 38, 1, []),
  (38, .iaload, 39, 0, []),
  (39, .if_icmp .lt 9, 42, 48, []),
  (42, .aload_n 0, 43, 0, []),
  (43, .iconst 1, 44, 0, [(1, 0)]),
  (44, .invokevirtual 60, 47, 0, []),
  (47, .ireturn, 48, 0, []),
  (48, .bipush 32, 50, 0, [(32, 0)]),
  (50, .aload_n 0, 51, 0, []),
  (51, .getfield 38, 54, 5, []),
  (54, .iload_n 1, 55, 1, []),
  (55, .iaload, 56, 0, []),
  (56, .isub, 57, 0, []),
  (57, .istore 4, 59, 4, []),
  (59, .aload_n 0, 60, 0, []),
  (60, .getfield 35, 63, 4, []),
  (63, .iload_n 1, 64, 1, []),
  (64, .aaload, 65, 0, []),
  (65, .iload_n 2, 66, 2, []),
  (66, .iload_n 3, 67, 3, []),
  (67, .iload 4, 69, 4, []),
  (69, .ishl, 70, 0, []),
  (70, .iload 4, 72, 4, []),
  (72, .ishr, 73, 0, []),
  (73, .iastore, 74, 0, []),
  (74, .iconst 1, 75, 0, [(1, 0)]),
  (75, .ireturn, 76, 0, [])]
def m_H_put : MI := (⟨"HandOverHorse", "put", "(III)I"⟩, prog_1_method_34_code, 5, (some .int), p_H_put, 11)
def p_H_stand : List PE := [(0, .iload_n 3, 1, 3, []),
  (1, .ifCond .lt 33, 4, 34, []),
  (4, .iload_n 2, 5, 2, []),
  (5, .ifCond .lt 29, 8, 34, []),
  (8, .iload_n 3, 9, 3, []),
  (9, .aload_n 0, 10, 0, []),
  (10, .getfield 42, 13, 6, []),
  (13, .iload_n 1, 14, 1, []),
  (14, .iaload, 15, 0, []),
  (15, .if_icmp .gt 19, 18, 34, []),
  (18, .iload_n 2, 19, 2, []),
  (19, .aload_n 0, 20, 0, []),
  (20, .getfield 42, 23, 6, []),
  (23, .iload_n 1, 24, 1, []),
  (24, .iaload, 25, 0, []),
  (25, .iload_n 3, 26, 3, []),
  (26, .isub, 27, 0, []),
  (27, .if_icmp .gt 7, 30, 34, []),
  (30, .iconst 1, 31, 0, [(1, 0)]),
  (31, .goto 4, 34, 35, []),
  (34, .iconst 0, 35, 0, [(0, 0)]),
  (35, .ireturn, 36, 0, [])]
def m_H_stand : MI := (⟨"HandOverHorse", "stand", "(III)Z"⟩, prog_1_method_35_code, 4, (some .boolean), p_H_stand, 11)
def p_H_move : List PE := [(0, .iload_n 1, 1, 1, []),
  (1, .invokestatic 260, 4, 0, []),
  (4, .ifCond .eq 10, 7, 14, []),
  (7, .iload_n 3, 8, 3, []),
  (8, .invokestatic 260, 11, 0, []),
  (11, .ifCond .ne 9, 14, 20, []),
  (14, .aload_n 0, 15, 0, []),
  (15, .iconst 1, 16, 0, [(1, 0)]),
  (16, .invokevirtual 60, 19, 0, []),
  (19, .ireturn, 20, 0, []),
  (20, .aload_n 0, 21, 0, []),
  (21, .getfield 38, 24, 5, []),
  (24, .iload_n 1, 25, 1, []),
  (25, .iaload, 26, 0, []),
  (26, .ifCond .eq 12, 29, 38, []),
  (29, .aload_n 0, 30, 0, []),
  (30, .getfield 38, 33, 5, []),
  (33, .iload_n 3, 34, 3, []),
  (34, .iaload, 35, 0, []),
  (35, .ifCond .ne 9, 38, 44, []),
  (38, .aload_n 0, 39, 0, []),
  (39, .iconst 2, 40, 0, [(2, 0)]),
  (40, .invokevirtual 60, 43, 0, []),
  (43, .ireturn, 44, 0, []),
  (44, .aload_n 0, 45, 0, []),
  (45, .getfield 38, 48, 5, []),
  (48, .iload_n 1, 49, 1, []),
  (49, .iaload, 50, 0, []),
  (50, .aload_n 0, 51, 0, []),
  (51, .getfield 38, 54, 5, []),
  (54, .iload_n 3, 55, 3, []),
  (55, .iaload, 56, 0, []),
  (56, .if_icmp .eq 9, 59, 65, []),
  (59, .aload_n 0, 60, 0, []),
  (60, .iconst 5, 61, 0, [(5, 0)]),
  (61, .invokevirtual 60, 64, 0, []),
  (64, .ireturn, 65, 0, []),
  (65, .aload_n 0, 66, 0, []),
  (66, .iload_n 1, 67, 1, []),
  (67, .iload_n 2, 68, 2, []),
  (68, .iload 5, 70, 5, []),
  (70, .invokevirtual 266, 73, 0, []),
  (73, .ifCond .eq 15, 76, 88, []),
  (76, .aload_n 0, 77, 0, []),
  (77, .iload_n 3, 78, 3, []),
  (78, .iload 4, 80, 4, []),
  (80, .iload 5, 82, 5, []),
  (82, .invokevirtual 266, 85, 0, []),
  (85, .ifCond .ne 9, 88, 94, []),
  (88, .aload_n 0, 89, 0, []),
  (89, .iconst 1, 90, 0, [(1, 0)]),
  (90, .invokevirtual 60, 93, 0, []),
  (93, .ireturn, 94, 0, []),
  (94, .aload_n 0, 95, 0, []),
  (95, .getfield 35, 98, 4, []),
  (98, .iload_n 1, 99, 1, []),
  (99, .aaload, 100, 0, []),
  (100, .iload_n 2, 101, 2, []),
  (101, .aload_n 0, 102, 0, []),
  (102, .getfield 35, 105, 4, []),
  (105, .iload_n 3, 106, 3, []),
  (106, .aaload, 107, 0, []),
  (107, .iload 4, 109, 4, []),
  (109, .iload 5, 111, 5, []),
  (111, .invokestatic 269, 114, 0, []),
  (114, .iload 5, 116, 5, []),
  (116, .ireturn, 117, 0, [])]
def m_H_move : MI := (⟨"HandOverHorse", "move", "(IIIII)I"⟩, prog_1_method_36_code, 6, (some .int), p_H_move, 11)
def p_H_looks : List PE := [(0, .iload_n 1, 1, 1, []),
  (1, .invokestatic 260, 4, 0, []),
  (4, .ifCond .ne 9, 7, 13, []),
  (7, .aload_n 0, 8, 0, []),
  (8, .iconst 1, 9, 0, [(1, 0)]),
  (9, .invokevirtual 60, 12, 0, []),
  (12, .ireturn, 13, 0, []),
  (13, .aload_n 0, 14, 0, []),
  (14, .getfield 38, 17, 5, []),
  (17, .iload_n 1, 18, 1, []),
  (18, .iaload, 19, 0, []),
  (19, .ifCond .ne 9, 22, 28, []),
  (22, .aload_n 0, 23, 0, []),
  (23, .iconst 2, 24, 0, [(2, 0)]),
  (24, .invokevirtual 60, 27, 0, []),
  (27, .ireturn, 28, 0, []),
  (28, .aload_n 0, 29, 0, []),
  (29, .getfield 35, 32, 4, []),
  (32, .iload_n 1, 33, 1, []),
  (33, .aaload, 34, 0, []),
  (34, .astore_n 2, 35, 2, []),
  (35, .iconst 0, 36, 0, [(0, 0)]),
  (36, .istore_n 3, 37, 3, []),
  (37, .iconst 0, 38, 0, [(0, 0)]),
  (38, .istore 4, 40, 4, []),
  (40, .iload 4, 42, 4, []),
  (42, .iconst 2, 43, 0, [(2, 0)]),
  (43, .iadd, 44, 0, []),
  (44, .aload_n 0, 45, 0, []),
  (45, .getfield 42, 48, 6, []),
  (48, .iload_n 1, 49, 1, []),
  (49, .iaload, 50, 0, []),
  (50, .if_icmp .ge 77, 53, 127, []),
  (53, .aload_n 0, 54, 0, []),
  (54, .getfield 10, 57, 0, []),
  (57, .getfield 117, 60, 5, []),
  (60, .bipush 12, 62, 0, [(12, 0)]),
  (62, .if_icmp .ge 65, 65, 127, []),
  (65, .aload_n 0, 66, 0, []),
  (66, .getfield 10, 69, 0, []),
  (69, .aload_n 2, 70, 2, []),
  (70, .iload 4, 72, 4, []),
  (72, .iaload, 73, 0, []),
  (73, .aload_n 2, 74, 2, []),
  (74, .iload 4, 76, 4, []),
  (76, .iconst 1, 77, 0, [(1, 0)]),
  (77, .iadd, 78, 0, []),
  (78, .iaload, 79, 0, []),
  (79, .aload_n 2, 80, 2, []),
  (80, .iload 4, 82, 4, []),
  (82, .iconst 2, 83, 0, [(2, 0)]),
  (83, .iadd, 84, 0, []),
  (84, .iaload, 85, 0, []),
  (85, .invokevirtual 113, 88, 0, []),
  (88, .ifCond .ne 6, 91, 94, []),
  (91, .goto 36, 94, 127, []),
  (94, .aload_n 0, 95, 0, []),
  (95, .getfield 10, 98, 0, []),
  (98, .aload_n 2, 99, 2, []),
  (99, .iload 4, 101, 4, []),
  (101, .iaload, 102, 0, []),
  (102, .aload_n 2, 103, 2, []),
  (103, .iload 4, 105, 4, []),
  (105, .iconst 1, 106, 0, [(1, 0)]),
  (106, .iadd, 107, 0, []),
  (107, .iaload, 108, 0, []),
  (108, .aload_n 2, 109, 2, []),
  (109, .iload 4, 111, 4, []),
  (111, .iconst 2, 112, 0, [(2, 0)]),
  (112, .iadd, 113, 0, []),
  (113, .iaload, 114, 0, []),
  (114, .invokevirtual 120, 117, 0, []),
  (117, .pop, 118, 0, []),
  (118, .iinc 3 1, 121, 3, [(1, 0)]),
  (121, .iinc 4 3, 124, 4, [(3, 0)]),
  (124, .goto (-84), 127, 40, []),
  (127, .iload_n 3, 128, 3, []),
  (128, .ireturn, 129, 0, [])]
def m_H_looks : MI := (⟨"HandOverHorse", "looks", "(I)I"⟩, prog_1_method_37_code, 5, (some .int), p_H_looks, 11)
def p_H_judge : List PE := [(0, .iload_n 1, 1, 1, []),
  (1, .invokestatic 260, 4, 0, []),
  (4, .ifCond .ne 9, 7, 13, []),
  (7, .aload_n 0, 8, 0, []),
  (8, .iconst 1, 9, 0, [(1, 0)]),
  (9, .invokevirtual 60, 12, 0, []),
  (12, .ireturn, 13, 0, []),
  (13, .aload_n 0, 14, 0, []),
  (14, .getfield 38, 17, 5, []),
  (17, .iload_n 1, 18, 1, []),
  (18, .iaload, 19, 0, []),
  (19, .ifCond .ne 9, 22, 28, []),
  (22, .aload_n 0, 23, 0, []),
  (23, .iconst 2, 24, 0, [(2, 0)]),
  (24, .invokevirtual 60, 27, 0, []),
  (27, .ireturn, 28, 0, []),
  (28, .aload_n 0, 29, 0, []),
  (29, .getfield 35, 32, 4, []),
  (32, .iload_n 1, 33, 1, []),
  (33, .aaload, 34, 0, []),
  (34, .astore_n 2, 35, 2, []),
  (35, .iconst 0, 36, 0, [(0, 0)]),
  (36, .istore_n 3, 37, 3, []),
  (37, .iload_n 3, 38, 3, []),
  (38, .aload_n 0, 39, 0, []),
  (39, .getfield 10, 42, 0, []),
  (42, .getfield 64, 45, 1, []),
  (45, .if_icmp .ge 61, 48, 106, []),
  (48, .iload_n 3, 49, 3, []),
  (49, .aload_n 0, 50, 0, []),
  (50, .getfield 42, 53, 6, []),
  (53, .iload_n 1, 54, 1, []),
  (54, .iaload, 55, 0, []),
  (55, .if_icmp .ge 43, 58, 98, []),
  (58, .aload_n 2, 59, 2, []),
  (59, .iload_n 3, 60, 3, []),
  (60, .iaload, 61, 0, []),
  (61, .aload_n 0, 62, 0, []),
  (62, .getfield 10, 65, 0, []),
  (65, .iload_n 3, 66, 3, []),
  (66, .invokevirtual 88, 69, 0, []),
  (69, .if_icmp .lt 29, 72, 98, []),
  (72, .aload_n 2, 73, 2, []),
  (73, .iload_n 3, 74, 3, []),
  (74, .iaload, 75, 0, []),
  (75, .aload_n 0, 76, 0, []),
  (76, .getfield 10, 79, 0, []),
  (79, .iload_n 3, 80, 3, []),
  (80, .invokevirtual 91, 83, 0, []),
  (83, .if_icmp .gt 15, 86, 98, []),
  (86, .aload_n 0, 87, 0, []),
  (87, .getfield 10, 90, 0, []),
  (90, .iload_n 3, 91, 3, []),
  (91, .aload_n 2, 92, 2, []),
  (92, .invokevirtual 275, 95, 0, []),
  (95, .ifCond .ne 5, 98, 100, []),
  (98, .iload_n 3, 99, 3, []),
  (99, .ireturn, 100, 0, []),
  (100, .iinc 3 1, 103, 3, [(1, 0)]),
  (103, .goto (-66), 106, 37, []),
  (106, .aload_n 0, 107, 0, []),
  (107, .getfield 10, 110, 0, []),
  (110, .getfield 64, 113, 1, []),
  (113, .ireturn, 114, 0, [])]
def m_H_judge : MI := (⟨"HandOverHorse", "judge", "(I)I"⟩, prog_1_method_38_code, 4, (some .int), p_H_judge, 11)
def p_H_image : List PE := [(0, .aload_n 0, 1, 0, []),
  (1, .getfield 16, 4, 1, []),
  (4, .aload_n 0, 5, 0, []),
  (5, .getfield 10, 8, 0, []),
  (8, .invokevirtual 279, 11, 0, []),
  (11, .aload_n 0, 12, 0, []),
  (12, .dup, 13, 0, []),
  (13, .getfield 51, 16, 9, []),
  (16, .iconst 1, 17, 0, [(1, 0)]),
  (17, .iadd, 18, 0, []),
  (18, .putfield 51, 21, 9, []),
  (21, .aload_n 0, 22, 0, []),
  (22, .getfield 51, 25, 9, []),
  (25, .ireturn, 26, 0, [])]
def m_H_image : MI := (⟨"HandOverHorse", "image", "()I"⟩, prog_1_method_39_code, 1, (some .int), p_H_image, 11)
def p_H_restore : List PE := [(0, .aload_n 0, 1, 0, []),
  (1, .getfield 51, 4, 9, []),
  (4, .ifCond .ne 9, 7, 13, []),
  (7, .aload_n 0, 8, 0, []),
  (8, .iconst 2, 9, 0, [(2, 0)]),
  (9, .invokevirtual 60, 12, 0, []),
  (12, .ireturn, 13, 0, []),
  (13, .aload_n 0, 14, 0, []),
  (14, .getfield 10, 17, 0, []),
  (17, .aload_n 0, 18, 0, []),
  (18, .getfield 16, 21, 1, []),
  (21, .invokevirtual 279, 24, 0, []),
  (24, .aload_n 0, 25, 0, []),
  (25, .getfield 10, 28, 0, []),
  (28, .getfield 64, 31, 1, []),
  (31, .ireturn, 32, 0, [])]
def m_H_restore : MI := (⟨"HandOverHorse", "restore", "()I"⟩, prog_1_method_40_code, 1, (some .int), p_H_restore, 11)
def p_H_tell : List PE := [(0, .aload_n 0, 1, 0, []),
  (1, .getfield 10, 4, 0, []),
  (4, .getfield 282, 7, 11, []),
  (7, .bipush 20, 9, 0, [(20, 0)]),
  (9, .if_icmp .lt 9, 12, 18, []),
  (12, .aload_n 0, 13, 0, []),
  (13, .iconst 4, 14, 0, [(4, 0)]),
  (14, .invokevirtual 60, 17, 0, []),
  (17, .ireturn, 18, 0, []),
  (18, .aload_n 0, 19, 0, []),
  (19, .getfield 10, 22, 0, []),
  (22, .getfield 285, 25, 10, []),
  (25, .aload_n 0, 26, 0, []),
  (26, .getfield 10, 29, 0, []),
  (29, .getfield 282, 32, 11, []),
  (32, .iload_n 1, 33, 1, []),
  (33, .iastore, 34, 0, []),
  (34, .aload_n 0, 35, 0, []),
  (35, .getfield 10, 38, 0, []),
  (38, .dup, 39, 0, []),
  (39, .getfield 282, 42, 11, []),
  (42, .iconst 1, 43, 0, [(1, 0)]),
  (43, .iadd, 44, 0, []),
  (44, .putfield 282, 47, 11, []),
  (47, .aload_n 0, 48, 0, []),
  (48, .getfield 10, 51, 0, []),
  (51, .getfield 282, 54, 11, []),
  (54, .ireturn, 55, 0, [])]
def m_H_tell : MI := (⟨"HandOverHorse", "tell", "(I)I"⟩, prog_1_method_41_code, 2, (some .int), p_H_tell, 11)
def p_H_check : List PE := [(0, .aload_n 0, 1, 0, []),
  (1, .getfield 10, 4, 0, []),
  (4, .invokevirtual 288, 7, 0, []),
  (7, .istore_n 1, 8, 1, []),
  (8, .aload_n 0, 9, 0, []),
  (9, .getfield 10, 12, 0, []),
  (12, .iconst 0, 13, 0, [(0, 0)]),
  (13, .putfield 282, 16, 11, []),
  (16, .iload_n 1, 17, 1, []),
  (17, .iconst 1, 18, 0, [(1, 0)]),
  (18, .iadd, 19, 0, []),
  (19, .ireturn, 20, 0, [])]
def m_H_check : MI := (⟨"HandOverHorse", "check", "()I"⟩, prog_1_method_42_code, 2, (some .int), p_H_check, 11)
def p_H_count : List PE := [(0, .iload_n 1, 1, 1, []),
  (1, .tableswitch 86 0 5 #[39, 47, 55, 63, 71, 78], 40, 87, [(0, 40), (1, 48), (2, 56), (3, 64), (4, 72), (5, 79)]),
  (40, .aload_n 0, 41, 0, []),
  (41, .getfield 10, 44, 0, []),
  (44, .getfield 64, 47, 1, []),
  (47, .ireturn, 48, 0, []),
  (48, .aload_n 0, 49, 0, []),
  (49, .getfield 10, 52, 0, []),
  (52, .getfield 117, 55, 5, []),
  (55, .ireturn, 56, 0, []),
  (56, .aload_n 0, 57, 0, []),
  (57, .getfield 10, 60, 0, []),
  (60, .getfield 138, 63, 7, []),
  (63, .ireturn, 64, 0, []),
  (64, .aload_n 0, 65, 0, []),
  (65, .getfield 10, 68, 0, []),
  (68, .getfield 282, 71, 11, []),
  (71, .ireturn, 72, 0, []),
  (72, .aload_n 0, 73, 0, []),
  (73, .getfield 45, 76, 7, []),
  (76, .iconst 0, 77, 0, [(0, 0)]),
  (77, .iaload, 78, 0, []),
  (78, .ireturn, 79, 0, []),
  (79, .aload_n 0, 80, 0, []),
  (80, .getfield 10, 83, 0, []),
  (83, .getfield 244, 86, 12, []),
  (86, .ireturn, 87, 0, []),
  (87, .aload_n 0, 88, 0, []),
  (88, .iconst 1, 89, 0, [(1, 0)]),
  (89, .invokevirtual 60, 92, 0, []),
  (92, .ireturn, 93, 0, [])]
def m_H_count : MI := (⟨"HandOverHorse", "count", "(I)I"⟩, prog_1_method_43_code, 2, (some .int), p_H_count, 11)
def p_H_told : List PE := [(0, .iload_n 1, 1, 1, []),
  (1, .iconst 1, 2, 0, [(1, 0)]),
  (2, .if_icmp .lt 8, 5, 10, []),
  (5, .iload_n 1, 6, 1, []),
  (6, .iconst 5, 7, 0, [(5, 0)]),
  (7, .if_icmp .le 9, 10, 16, []),
  (10, .aload_n 0, 11, 0, []),
  (11, .iconst 1, 12, 0, [(1, 0)]),
  (12, .invokevirtual 60, 15, 0, []),
  (15, .ireturn, 16, 0, []),
  (16, .aload_n 0, 17, 0, []),
  (17, .getfield 48, 20, 8, []),
  (20, .iload_n 1, 21, 1, []),
  (21, .iaload, 22, 0, []),
  (22, .ireturn, 23, 0, [])]
def m_H_told : MI := (⟨"HandOverHorse", "told", "(I)I"⟩, prog_1_method_44_code, 2, (some .int), p_H_told, 11)
def p_Model_init : List PE := [(0, .aload_n 0, 1, 0, []),
  (1, .invokespecial 1, 4, 0, []),
  (4, .aload_n 0, 5, 0, []),
  (5, .sipush 270, 8, 0, [(270, 0)]),
  (8, .newarray .int, 10, 0, []),
  (10, .putfield 7, 13, 0, []),
  (13, .aload_n 0, 14, 0, []),
  (14, .sipush 270, 17, 0, [(270, 0)]),
  (17, .newarray .int, 19, 0, []),
  (19, .putfield 13, 22, 1, []),
  (22, .aload_n 0, 23, 0, []),
  (23, .bipush 6, 25, 0, [(6, 0)]),
  (25, .newarray .int, 27, 0, []),
  (27, .putfield 16, 30, 3, []),
  (30, .aload_n 0, 31, 0, []),
  (31, .iconst 4, 32, 0, [(4, 0)]),
  (32, .newarray .int, 34, 0, []),
  (34, .putfield 19, 37, 10, []),
  (37, .aload_n 0, 38, 0, []),
  (38, .bipush 8, 40, 0, [(8, 0)]),
  (40, .newarray .int, 42, 0, []),
  (42, .putfield 22, 45, 11, []),
  (45, .aload_n 0, 46, 0, []),
  (46, .sipush 256, 49, 0, [(256, 0)]),
  (49, .newarray .int, 51, 0, []),
  (51, .putfield 25, 54, 12, []),
  (54, .aload_n 0, 55, 0, []),
  (55, .sipush 256, 58, 0, [(256, 0)]),
  (58, .newarray .int, 60, 0, []),
  (60, .putfield 28, 63, 13, []),
  (63, .aload_n 0, 64, 0, []),
  (64, .sipush 256, 67, 0, [(256, 0)]),
  (67, .newarray .int, 69, 0, []),
  (69, .putfield 31, 72, 14, []),
  (72, .aload_n 0, 73, 0, []),
  (73, .bipush 8, 75, 0, [(8, 0)]),
  (75, .newarray .int, 77, 0, []),
  (77, .putfield 34, 80, 15, []),
  (80, .aload_n 0, 81, 0, []),
  (81, .bipush 8, 83, 0, [(8, 0)]),
  (83, .newarray .int, 85, 0, []),
  (85, .putfield 37, 88, 16, []),
  (88, .aload_n 0, 89, 0, []),
  (89, .bipush 8, 91, 0, [(8, 0)]),
  (91, .newarray .int, 93, 0, []),
  (93, .putfield 40, 96, 17, []),
  (96, .aload_n 0, 97, 0, []),
  (97, .sipush 256, 100, 0, [(256, 0)]),
  (100, .newarray .boolean, 102, 0, []),
  (102, .putfield 43, 105, 18, []),
  (105, .aload_n 0, 106, 0, []),
  (106, .sipush 256, 109, 0, [(256, 0)]),
  (109, .newarray .int, 111, 0, []),
  (111, .putfield 47, 114, 19, []),
  (114, .aload_n 0, 115, 0, []),
  (115, .bipush 40, 117, 0, [(40, 0)]),
  (117, .newarray .int, 119, 0, []),
  (119, .putfield 50, 122, 20, []),
  (122, .aload_n 0, 123, 0, []),
  (123, .iconst 4, 124, 0, [(4, 0)]),
  (124, .newarray .int, 126, 0, []),
  (126, .putfield 53, 129, 23, []),
  (129, .aload_n 0, 130, 0, []),
  (130, .iconst 4, 131, 0, [(4, 0)]),
  (131, .newarray .int, 133, 0, []),
  (133, .putfield 56, 136, 24, []),
  (136, .aload_n 0, 137, 0, []),
  (137, .sipush 160, 140, 0, [(160, 0)]),
  (140, .newarray .int, 142, 0, []),
  (142, .putfield 59, 145, 25, []),
  (145, .aload_n 0, 146, 0, []),
  (146, .bipush 40, 148, 0, [(40, 0)]),
  (148, .newarray .int, 150, 0, []),
  (150, .putfield 62, 153, 26, []),
  (153, .aload_n 0, 154, 0, []),
  (154, .getfield 7, 157, 0, []),
  (157, .iconst 2, 158, 0, [(2, 0)]),
  (158, .iconst 1, 159, 0, [(1, 0)]),
  (159, .iastore, 160, 0, []),
  (160, .return_, 161, 0, [])]
def m_Model_init : MI := (⟨"HandOverHorseModel", "<init>", "()V"⟩, prog_14_method_1_code, 1, none, p_Model_init, 12)
def p_Model_finds : List PE := [(0, .aload_n 0, 1, 0, []),
  (1, .getfield 16, 4, 3, []),
  (4, .iload_n 1, 5, 1, []),
  (5, .dup2, 6, 0, []),
  (6, .iaload, 7, 0, []),
  (7, .iconst 1, 8, 0, [(1, 0)]),
  (8, .iadd, 9, 0, []),
  (9, .iastore, 10, 0, []),
  (10, .ldc 65, 12, 1380, [((-1000000000), 0)]),
  (12, .iload_n 1, 13, 1, []),
  (13, .isub, 14, 0, []),
  (14, .ireturn, 15, 0, [])]
def m_Model_finds : MI := (⟨"HandOverHorseModel", "finds", "(I)I"⟩, prog_14_method_3_code, 2, (some .int), p_Model_finds, 12)
def p_Model_in : List PE := [(0, .lload_n 0, 1, 0, []),
  (1, .lload_n 2, 2, 2, []),
  (2, .lcmp, 3, 0, []),
  (3, .ifCond .lt 14, 6, 17, []),
  (6, .lload_n 0, 7, 0, []),
  (7, .lload 4, 9, 4, []),
  (9, .lcmp, 10, 0, []),
  (10, .ifCond .gt 7, 13, 17, []),
  (13, .iconst 1, 14, 0, [(1, 0)]),
  (14, .goto 4, 17, 18, []),
  (17, .iconst 0, 18, 0, [(0, 0)]),
  (18, .ireturn, 19, 0, [])]
def m_Model_in : MI := (⟨"HandOverHorseModel", "in", "(JJJ)Z"⟩, prog_14_method_4_code, 6, (some .boolean), p_Model_in, 12)
def p_Model_held : List PE := [(0, .iload_n 0, 1, 0, []),
  (1, .iload_n 1, 2, 1, []),
  (2, .if_icmp .ge 7, 5, 9, []),
  (5, .iload_n 1, 6, 1, []),
  (6, .goto 13, 9, 19, []),
  (9, .iload_n 0, 10, 0, []),
  (10, .iload_n 2, 11, 2, []),
  (11, .if_icmp .le 7, 14, 18, []),
  (14, .iload_n 2, 15, 2, []),
  (15, .goto 4, 18, 19, []),
  (18, .iload_n 0, 19, 0, []),
  (19, .ireturn, 20, 0, [])]
def m_Model_held : MI := (⟨"HandOverHorseModel", "held", "(III)I"⟩, prog_14_method_5_code, 3, (some .int), p_Model_held, 12)
def p_Model_size : List PE := [(0, .iload_n 0, 1, 0, []),
  (1, .ifCond .ge 8, 4, 9, []),
  (4, .iload_n 0, 5, 0, []),
  (5, .ineg, 6, 0, []),
  (6, .goto 4, 9, 10, []),
  (9, .iload_n 0, 10, 0, []),
  (10, .ireturn, 11, 0, [])]
def m_Model_size : MI := (⟨"HandOverHorseModel", "size", "(I)I"⟩, prog_14_method_6_code, 1, (some .int), p_Model_size, 12)
def p_Model_copies : List PE := [(0, .iconst 0, 1, 0, [(0, 0)]),
  (1, .istore_n 2, 2, 2, []),
  (2, .iload_n 2, 3, 2, []),
  (3, .sipush 270, 6, 0, [(270, 0)]),
  (6, .if_icmp .ge 15, 9, 21, []),
  (9, .aload_n 1, 10, 1, []),
  (10, .iload_n 2, 11, 2, []),
  (11, .aload_n 0, 12, 0, []),
  (12, .iload_n 2, 13, 2, []),
  (13, .iaload, 14, 0, []),
  (14, .iastore, 15, 0, []),
  (15, .iinc 2 1, 18, 2, [(1, 0)]),
  (18, .goto (-16), 21, 2, []),
  (21, .return_, 22, 0, [])]
def m_Model_copies : MI := (⟨"HandOverHorseModel", "copies", "([I[I)V"⟩, prog_14_method_7_code, 3, none, p_Model_copies, 12)
def p_Model_isStroke : List PE := [(0, .iload_n 1, 1, 1, []),
  (1, .i2l, 2, 0, []),
  (2, .lconst 0, 3, 0, []),
  (3, .aload_n 0, 4, 0, []),
  (4, .getfield 7, 7, 0, []),
  (7, .iconst 0, 8, 0, [(0, 0)]),
  (8, .iaload, 9, 0, []),
  (9, .iconst 1, 10, 0, [(1, 0)]),
  (10, .isub, 11, 0, []),
  (11, .i2l, 12, 0, []),
  (12, .invokestatic 66, 15, 0, []),
  (15, .ireturn, 16, 0, [])]
def m_Model_isStroke : MI := (⟨"HandOverHorseModel", "isStroke", "(I)Z"⟩, prog_14_method_8_code, 2, (some .boolean), p_Model_isStroke, 12)
def p_Model_isLook : List PE := [(0, .iload_n 1, 1, 1, []),
  (1, .i2l, 2, 0, []),
  (2, .lconst 0, 3, 0, []),
  (3, .aload_n 0, 4, 0, []),
  (4, .getfield 7, 7, 0, []),
  (7, .iconst 1, 8, 0, [(1, 0)]),
  (8, .iaload, 9, 0, []),
  (9, .iconst 1, 10, 0, [(1, 0)]),
  (10, .isub, 11, 0, []),
  (11, .i2l, 12, 0, []),
  (12, .invokestatic 66, 15, 0, []),
  (15, .ireturn, 16, 0, [])]
def m_Model_isLook : MI := (⟨"HandOverHorseModel", "isLook", "(I)Z"⟩, prog_14_method_9_code, 2, (some .boolean), p_Model_isLook, 12)
def p_Model_of : List PE := [(0, .aload_n 0, 1, 0, []),
  (1, .getfield 7, 4, 0, []),
  (4, .iconst 5, 5, 0, [(5, 0)]),
  (5, .bipush 7, 7, 0, [(7, 0)]),
  (7, .iload_n 1, 8, 1, []),
  (8, .imul, 9, 0, []),
  (9, .iadd, 10, 0, []),
  (10, .iload_n 2, 11, 2, []),
  (11, .iadd, 12, 0, []),
  (12, .iaload, 13, 0, []),
  (13, .ireturn, 14, 0, [])]
def m_Model_of : MI := (⟨"HandOverHorseModel", "of", "(II)I"⟩, prog_14_method_10_code, 3, (some .int), p_Model_of, 12)
def p_Model_becomes : List PE := [(0, .aload_n 0, 1, 0, []),
  (1, .getfield 7, 4, 0, []),
  (4, .iconst 5, 5, 0, [(5, 0)]),
  (5, .bipush 7, 7, 0, [(7, 0)]),
  (7, .iload_n 1, 8, 1, []),
  (8, .imul, 9, 0, []),
  (9, .iadd, 10, 0, []),
  (10, .iload_n 2, 11, 2, []),
  (11, .iadd, 12, 0, []),
  (12, .iload_n 3, 13, 3, []),
  (13, .iastore, 14, 0, []),
  (14, .return_, 15, 0, [])]
def m_Model_becomes : MI := (⟨"HandOverHorseModel", "becomes", "(III)V"⟩, prog_14_method_11_code, 4, none, p_Model_becomes, 12)
def p_Model_upper : List PE := [(0, .aload_n 0, 1, 0, []),
  (1, .getfield 7, 4, 0, []),
  (4, .bipush 61, 6, 0, [(61, 0)]),
  (6, .iconst 3, 7, 0, [(3, 0)]),
  (7, .iload_n 1, 8, 1, []),
  (8, .imul, 9, 0, []),
  (9, .iadd, 10, 0, []),
  (10, .iaload, 11, 0, []),
  (11, .ireturn, 12, 0, [])]
def m_Model_upper : MI := (⟨"HandOverHorseModel", "upper", "(I)I"⟩, prog_14_method_12_code, 2, (some .int), p_Model_upper, 12)
def p_Model_lower : List PE := [(0, .aload_n 0, 1, 0, []),
  (1, .getfield 7, 4, 0, []),
  (4, .bipush 61, 6, 0, [(61, 0)]),
  (6, .iconst 3, 7, 0, [(3, 0)]),
  (7, .iload_n 1, 8, 1, []),
  (8, .imul, 9, 0, []),
  (9, .iadd, 10, 0, []),
  (10, .iconst 1, 11, 0, [(1, 0)]),
  (11, .iadd, 12, 0, []),
  (12, .iaload, 13, 0, []),
  (13, .ireturn, 14, 0, [])]
def m_Model_lower : MI := (⟨"HandOverHorseModel", "lower", "(I)I"⟩, prog_14_method_13_code, 2, (some .int), p_Model_lower, 12)
def p_Model_here : List PE := [(0, .aload_n 0, 1, 0, []),
  (1, .getfield 70, 4, 5, []),
  (4, .aload_n 0, 5, 0, []),
  (5, .getfield 74, 8, 6, []),
  (8, .if_icmp .ge 27, 11, 35, []),
  (11, .aload_n 0, 12, 0, []),
  (12, .getfield 77, 15, 7, []),
  (15, .ifCond .ge 20, 18, 35, []),
  (18, .aload_n 0, 19, 0, []),
  (19, .getfield 7, 22, 0, []),
  (22, .aload_n 0, 23, 0, []),
  (23, .getfield 80, 26, 4, []),
  (26, .aload_n 0, 27, 0, []),
  (27, .getfield 70, 30, 5, []),
  (30, .iadd, 31, 0, []),
  (31, .iaload, 32, 0, []),
  (32, .goto 4, 35, 36, []),
  (35, .iconst (-1), 36, 0, [((-1), 0)]),
  (36, .ireturn, 37, 0, [])]
def m_Model_here : MI := (⟨"HandOverHorseModel", "here", "()I"⟩, prog_14_method_14_code, 1, (some .int), p_Model_here, 12)
def p_Model_wrong : List PE := [(0, .aload_n 0, 1, 0, []),
  (1, .aload_n 0, 2, 0, []),
  (2, .getfield 77, 5, 7, []),
  (5, .ifCond .ge 10, 8, 15, []),
  (8, .aload_n 0, 9, 0, []),
  (9, .getfield 70, 12, 5, []),
  (12, .goto 7, 15, 19, []),
  (15, .aload_n 0, 16, 0, []),
  (16, .getfield 77, 19, 7, []),
  (19, .putfield 77, 22, 7, []),
  (22, .iconst 0, 23, 0, [(0, 0)]),
  (23, .ireturn, 24, 0, [])]
def m_Model_wrong : MI := (⟨"HandOverHorseModel", "wrong", "()I"⟩, prog_14_method_15_code, 1, (some .int), p_Model_wrong, 12)
def p_Model_takes : List PE := [(0, .aload_n 0, 1, 0, []),
  (1, .invokevirtual 83, 4, 0, []),
  (4, .iload_n 1, 5, 1, []),
  (5, .if_icmp .eq 5, 8, 10, []),
  (8, .iconst 0, 9, 0, [(0, 0)]),
  (9, .ireturn, 10, 0, []),
  (10, .aload_n 0, 11, 0, []),
  (11, .dup, 12, 0, []),
  (12, .getfield 70, 15, 5, []),
  (15, .iconst 1, 16, 0, [(1, 0)]),
  (16, .iadd, 17, 0, []),
  (17, .putfield 70, 20, 5, []),
  (20, .iconst 1, 21, 0, [(1, 0)]),
  (21, .ireturn, 22, 0, [])]
def m_Model_takes : MI := (⟨"HandOverHorseModel", "takes", "(I)Z"⟩, prog_14_method_16_code, 2, (some .boolean), p_Model_takes, 12)
def p_Model_nameOf : List PE := [(0, .aload_n 0, 1, 0, []),
  (1, .getfield 87, 4, 9, []),
  (4, .ifCond .eq 35, 7, 39, []),
  (7, .iload_n 1, 8, 1, []),
  (8, .bipush 119, 10, 0, [(119, 0)]),
  (10, .if_icmp .ne 7, 13, 17, []),
  (13, .iconst 0, 14, 0, [(0, 0)]),
  (14, .goto 24, 17, 38, []),
  (17, .iload_n 1, 18, 1, []),
  (18, .bipush 107, 20, 0, [(107, 0)]),
  (20, .if_icmp .ne 7, 23, 27, []),
  (23, .iconst 1, 24, 0, [(1, 0)]),
  (24, .goto 14, 27, 38, []),
  (27, .iload_n 1, 28, 1, []),
  (28, .bipush 99, 30, 0, [(99, 0)]),
  (30, .if_icmp .ne 7, 33, 37, []),
  (33, .iconst 2, 34, 0, [(2, 0)]),
  (34, .goto 4, 37, 38, []),
  (37, .iconst (-1), 38, 0, [((-1), 0)]),
  (38, .ireturn, 39, 0, []),
  (39, .iload_n 1, 40, 1, []),
  (40, .bipush 99, 42, 0, [(99, 0)]),
  (42, .if_icmp .ne 7, 45, 49, []),
  (45, .iconst 0, 46, 0, [(0, 0)]),
  (46, .goto 34, 49, 80, []),
  (49, .iload_n 1, 50, 1, []),
  (50, .bipush 109, 52, 0, [(109, 0)]),
  (52, .if_icmp .ne 7, 55, 59, []),
  (55, .iconst 1, 56, 0, [(1, 0)]),
  (56, .goto 24, 59, 80, []),
  (59, .iload_n 1, 60, 1, []),
  (60, .bipush 107, 62, 0, [(107, 0)]),
  (62, .if_icmp .ne 7, 65, 69, []),
  (65, .iconst 2, 66, 0, [(2, 0)]),
  (66, .goto 14, 69, 80, []),
  (69, .iload_n 1, 70, 1, []),
  (70, .bipush 104, 72, 0, [(104, 0)]),
  (72, .if_icmp .ne 7, 75, 79, []),
  (75, .iconst 3, 76, 0, [(3, 0)]),
  (76, .goto 4, 79, 80, []),
  (79, .iconst (-1), 80, 0, [((-1), 0)]),
  (80, .ireturn, 81, 0, [])]
def m_Model_nameOf : MI := (⟨"HandOverHorseModel", "nameOf", "(I)I"⟩, prog_14_method_17_code, 2, (some .int), p_Model_nameOf, 12)
def p_Model_either : List PE := [(0, .aload_n 0, 1, 0, []),
  (1, .invokevirtual 91, 4, 0, []),
  (4, .istore_n 1, 5, 1, []),
  (5, .aload_n 0, 6, 0, []),
  (6, .bipush 124, 8, 0, [(124, 0)]),
  (8, .invokevirtual 94, 11, 0, []),
  (11, .ifCond .eq 25, 14, 36, []),
  (14, .aload_n 0, 15, 0, []),
  (15, .invokevirtual 91, 18, 0, []),
  (18, .istore_n 2, 19, 2, []),
  (19, .iload_n 1, 20, 1, []),
  (20, .ifCond .ne 7, 23, 27, []),
  (23, .iload_n 2, 24, 2, []),
  (24, .ifCond .eq 7, 27, 31, []),
  (27, .iconst 1, 28, 0, [(1, 0)]),
  (28, .goto 4, 31, 32, []),
  (31, .iconst 0, 32, 0, [(0, 0)]),
  (32, .istore_n 1, 33, 1, []),
  (33, .goto (-28), 36, 5, []),
  (36, .iload_n 1, 37, 1, []),
  (37, .ireturn, 38, 0, [])]
def m_Model_either : MI := (⟨"HandOverHorseModel", "either", "()I"⟩, prog_14_method_18_code, 3, (some .int), p_Model_either, 12)
def p_Model_both : List PE := [(0, .aload_n 0, 1, 0, []),
  (1, .invokevirtual 98, 4, 0, []),
  (4, .istore_n 1, 5, 1, []),
  (5, .aload_n 0, 6, 0, []),
  (6, .bipush 38, 8, 0, [(38, 0)]),
  (8, .invokevirtual 94, 11, 0, []),
  (11, .ifCond .eq 25, 14, 36, []),
  (14, .aload_n 0, 15, 0, []),
  (15, .invokevirtual 98, 18, 0, []),
  (18, .istore_n 2, 19, 2, []),
  (19, .iload_n 1, 20, 1, []),
  (20, .ifCond .eq 11, 23, 31, []),
  (23, .iload_n 2, 24, 2, []),
  (24, .ifCond .eq 7, 27, 31, []),
  (27, .iconst 1, 28, 0, [(1, 0)]),
  (28, .goto 4, 31, 32, []),
  (31, .iconst 0, 32, 0, [(0, 0)]),
  (32, .istore_n 1, 33, 1, []),
  (33, .goto (-28), 36, 5, []),
  (36, .iload_n 1, 37, 1, []),
  (37, .ireturn, 38, 0, [])]
def m_Model_both : MI := (⟨"HandOverHorseModel", "both", "()I"⟩, prog_14_method_19_code, 3, (some .int), p_Model_both, 12)
def p_Model_compared : List PE := [(0, .aload_n 0, 1, 0, []),
  (1, .invokevirtual 101, 4, 0, []),
  (4, .istore_n 1, 5, 1, []),
  (5, .aload_n 0, 6, 0, []),
  (6, .invokevirtual 83, 9, 0, []),
  (9, .istore_n 2, 10, 2, []),
  (10, .iload_n 2, 11, 2, []),
  (11, .bipush 60, 13, 0, [(60, 0)]),
  (13, .if_icmp .eq 17, 16, 30, []),
  (16, .iload_n 2, 17, 2, []),
  (17, .bipush 61, 19, 0, [(61, 0)]),
  (19, .if_icmp .eq 11, 22, 30, []),
  (22, .iload_n 2, 23, 2, []),
  (23, .bipush 62, 25, 0, [(62, 0)]),
  (25, .if_icmp .eq 5, 28, 30, []),
  (28, .iload_n 1, 29, 1, []),
  (29, .ireturn, 30, 0, []),
  (30, .aload_n 0, 31, 0, []),
  (31, .dup, 32, 0, []),
  (32, .getfield 70, 35, 5, []),
  (35, .iconst 1, 36, 0, [(1, 0)]),
  (36, .iadd, 37, 0, []),
  (37, .putfield 70, 40, 5, []),
  (40, .aload_n 0, 41, 0, []),
  (41, .invokevirtual 101, 44, 0, []),
  (44, .istore_n 3, 45, 3, []),
  (45, .iload_n 2, 46, 2, []),
  (46, .bipush 60, 48, 0, [(60, 0)]),
  (48, .if_icmp .ne 11, 51, 59, []),
  (51, .iload_n 1, 52, 1, []),
  (52, .iload_n 3, 53, 3, []),
  (53, .if_icmp .ge 29, 56, 82, []),
  (56, .goto 22, 59, 78, []),
  (59, .iload_n 2, 60, 2, []),
  (60, .bipush 61, 62, 0, [(61, 0)]),
  (62, .if_icmp .ne 11, 65, 73, []),
  (65, .iload_n 1, 66, 1, []),
  (66, .iload_n 3, 67, 3, []),
  (67, .if_icmp .ne 15, 70, 82, []),
  (70, .goto 8, 73, 78, []),
  (73, .iload_n 1, 74, 1, []),
  (74, .iload_n 3, 75, 3, []),
  (75, .if_icmp .le 7, 78, 82, []),
  (78, .iconst 1, 79, 0, [(1, 0)]),
  (79, .goto 4, 82, 83, []),
  (82, .iconst 0, 83, 0, [(0, 0)]),
  (83, .ireturn, 84, 0, [])]
def m_Model_compared : MI := (⟨"HandOverHorseModel", "compared", "()I"⟩, prog_14_method_20_code, 4, (some .int), p_Model_compared, 12)
def p_Model_sum : List PE := [(0, .aload_n 0, 1, 0, []),
  (1, .invokevirtual 104, 4, 0, []),
  (4, .istore_n 1, 5, 1, []),
  (5, .aload_n 0, 6, 0, []),
  (6, .invokevirtual 83, 9, 0, []),
  (9, .bipush 43, 11, 0, [(43, 0)]),
  (11, .if_icmp .eq 12, 14, 23, []),
  (14, .aload_n 0, 15, 0, []),
  (15, .invokevirtual 83, 18, 0, []),
  (18, .bipush 45, 20, 0, [(45, 0)]),
  (20, .if_icmp .ne 42, 23, 62, []),
  (23, .aload_n 0, 24, 0, []),
  (24, .invokevirtual 83, 27, 0, []),
  (27, .istore_n 2, 28, 2, []),
  (28, .aload_n 0, 29, 0, []),
  (29, .dup, 30, 0, []),
  (30, .getfield 70, 33, 5, []),
  (33, .iconst 1, 34, 0, [(1, 0)]),
  (34, .iadd, 35, 0, []),
  (35, .putfield 70, 38, 5, []),
  (38, .aload_n 0, 39, 0, []),
  (39, .invokevirtual 104, 42, 0, []),
  (42, .istore_n 3, 43, 3, []),
  (43, .iload_n 2, 44, 2, []),
  (44, .bipush 43, 46, 0, [(43, 0)]),
  (46, .if_icmp .ne 9, 49, 55, []),
  (49, .iload_n 1, 50, 1, []),
  (50, .iload_n 3, 51, 3, []),
  (51, .iadd, 52, 0, []),
  (52, .goto 6, 55, 58, []),
  (55, .iload_n 1, 56, 1, []),
  (56, .iload_n 3, 57, 3, []),
  (57, .isub, 58, 0, []),
  (58, .istore_n 1, 59, 1, []),
  (59, .goto (-54), 62, 5, []),
  (62, .iload_n 1, 63, 1, []),
  (63, .ireturn, 64, 0, [])]
def m_Model_sum : MI := (⟨"HandOverHorseModel", "sum", "()I"⟩, prog_14_method_21_code, 4, (some .int), p_Model_sum, 12)
def p_Model_product : List PE := [(0, .aload_n 0, 1, 0, []),
  (1, .invokevirtual 107, 4, 0, []),
  (4, .istore_n 1, 5, 1, []),
  (5, .aload_n 0, 6, 0, []),
  (6, .invokevirtual 83, 9, 0, []),
  (9, .bipush 42, 11, 0, [(42, 0)]),
  (11, .if_icmp .eq 21, 14, 32, []),
  (14, .aload_n 0, 15, 0, []),
  (15, .invokevirtual 83, 18, 0, []),
  (18, .bipush 47, 20, 0, [(47, 0)]),
  (20, .if_icmp .eq 12, 23, 32, []),
  (23, .aload_n 0, 24, 0, []),
  (24, .invokevirtual 83, 27, 0, []),
  (27, .bipush 37, 29, 0, [(37, 0)]),
  (29, .if_icmp .ne 62, 32, 91, []),
  (32, .aload_n 0, 33, 0, []),
  (33, .invokevirtual 83, 36, 0, []),
  (36, .istore_n 2, 37, 2, []),
  (37, .aload_n 0, 38, 0, []),
  (38, .dup, 39, 0, []),
  (39, .getfield 70, 42, 5, []),
  (42, .iconst 1, 43, 0, [(1, 0)]),
  (43, .iadd, 44, 0, []),
  (44, .putfield 70, 47, 5, []),
  (47, .aload_n 0, 48, 0, []),
  (48, .invokevirtual 107, 51, 0, []),
  (51, .istore_n 3, 52, 3, []),
  (52, .iload_n 2, 53, 2, []),
  (53, .bipush 42, 55, 0, [(42, 0)]),
  (55, .if_icmp .ne 9, 58, 64, []),
  (58, .iload_n 1, 59, 1, []),
  (59, .iload_n 3, 60, 3, []),
  (60, .imul, 61, 0, []),
  (61, .goto 26, 64, 87, []),
  (64, .iload_n 3, 65, 3, []),
  (65, .ifCond .ne 7, 68, 72, []),
  (68, .iconst 0, 69, 0, [(0, 0)]),
  (69, .goto 18, 72, 87, []),
  (72, .iload_n 2, 73, 2, []),
  (73, .bipush 47, 75, 0, [(47, 0)]),
  (75, .if_icmp .ne 9, 78, 84, []),
  (78, .iload_n 1, 79, 1, []),
  (79, .iload_n 3, 80, 3, []),
  (80, .idiv, 81, 0, []),
  (81, .goto 6, 84, 87, []),
  (84, .iload_n 1, 85, 1, []),
  (85, .iload_n 3, 86, 3, []),
  (86, .irem, 87, 0, []),
  (87, .istore_n 1, 88, 1, []),
  (88, .goto (-83), 91, 5, []),
  (91, .iload_n 1, 92, 1, []),
  (92, .ireturn, 93, 0, [])]
def m_Model_product : MI := (⟨"HandOverHorseModel", "product", "()I"⟩, prog_14_method_22_code, 4, (some .int), p_Model_product, 12)
def p_Model_unit : List PE := [(0, .aload_n 0, 1, 0, []),
  (1, .invokevirtual 83, 4, 0, []),
  (4, .istore_n 1, 5, 1, []),
  (5, .iload_n 1, 6, 1, []),
  (6, .bipush 33, 8, 0, [(33, 0)]),
  (8, .if_icmp .eq 9, 11, 17, []),
  (11, .iload_n 1, 12, 1, []),
  (12, .bipush 40, 14, 0, [(40, 0)]),
  (14, .if_icmp .ne 104, 17, 118, []),
  (17, .aload_n 0, 18, 0, []),
  (18, .getfield 110, 21, 8, []),
  (21, .iconst 5, 22, 0, [(5, 0)]),
  (22, .if_icmp .ne 8, 25, 30, []),
  (25, .aload_n 0, 26, 0, []),
  (26, .invokevirtual 113, 29, 0, []),
  (29, .ireturn, 30, 0, []),
  (30, .aload_n 0, 31, 0, []),
  (31, .dup, 32, 0, []),
  (32, .getfield 110, 35, 8, []),
  (35, .iconst 1, 36, 0, [(1, 0)]),
  (36, .iadd, 37, 0, []),
  (37, .putfield 110, 40, 8, []),
  (40, .aload_n 0, 41, 0, []),
  (41, .dup, 42, 0, []),
  (42, .getfield 70, 45, 5, []),
  (45, .iconst 1, 46, 0, [(1, 0)]),
  (46, .iadd, 47, 0, []),
  (47, .putfield 70, 50, 5, []),
  (50, .iload_n 1, 51, 1, []),
  (51, .bipush 40, 53, 0, [(40, 0)]),
  (53, .if_icmp .ne 10, 56, 63, []),
  (56, .aload_n 0, 57, 0, []),
  (57, .invokevirtual 116, 60, 0, []),
  (60, .goto 7, 63, 67, []),
  (63, .aload_n 0, 64, 0, []),
  (64, .invokevirtual 107, 67, 0, []),
  (67, .istore_n 2, 68, 2, []),
  (68, .iload_n 1, 69, 1, []),
  (69, .bipush 40, 71, 0, [(40, 0)]),
  (71, .if_icmp .ne 17, 74, 88, []),
  (74, .aload_n 0, 75, 0, []),
  (75, .bipush 41, 77, 0, [(41, 0)]),
  (77, .invokevirtual 94, 80, 0, []),
  (80, .ifCond .ne 8, 83, 88, []),
  (83, .aload_n 0, 84, 0, []),
  (84, .invokevirtual 113, 87, 0, []),
  (87, .ireturn, 88, 0, []),
  (88, .aload_n 0, 89, 0, []),
  (89, .dup, 90, 0, []),
  (90, .getfield 110, 93, 8, []),
  (93, .iconst 1, 94, 0, [(1, 0)]),
  (94, .isub, 95, 0, []),
  (95, .putfield 110, 98, 8, []),
  (98, .iload_n 1, 99, 1, []),
  (99, .bipush 40, 101, 0, [(40, 0)]),
  (101, .if_icmp .ne 7, 104, 108, []),
  (104, .iload_n 2, 105, 2, []),
  (105, .goto 12, 108, 117, []),
  (108, .iload_n 2, 109, 2, []),
  (109, .ifCond .ne 7, 112, 116, []),
  (112, .iconst 1, 113, 0, [(1, 0)]),
  (113, .goto 4, 116, 117, []),
  (116, .iconst 0, 117, 0, [(0, 0)]),
  (117, .ireturn, 118, 0, []),
  (118, .aload_n 0, 119, 0, []),
  (119, .iload_n 1, 120, 1, []),
  (120, .invokevirtual 119, 123, 0, []),
  (123, .istore_n 2, 124, 2, []),
  (124, .iload_n 2, 125, 2, []),
  (125, .ifCond .lt 20, 128, 145, []),
  (128, .aload_n 0, 129, 0, []),
  (129, .dup, 130, 0, []),
  (130, .getfield 70, 133, 5, []),
  (133, .iconst 1, 134, 0, [(1, 0)]),
  (134, .iadd, 135, 0, []),
  (135, .putfield 70, 138, 5, []),
  (138, .aload_n 0, 139, 0, []),
  (139, .getfield 19, 142, 10, []),
  (142, .iload_n 2, 143, 2, []),
  (143, .iaload, 144, 0, []),
  (144, .ireturn, 145, 0, []),
  (145, .iconst 0, 146, 0, [(0, 0)]),
  (146, .istore_n 3, 147, 3, []),
  (147, .iconst 0, 148, 0, [(0, 0)]),
  (148, .istore 4, 150, 4, []),
  (150, .iload 4, 152, 4, []),
  (152, .iconst 4, 153, 0, [(4, 0)]),
  (153, .if_icmp .ge 49, 156, 202, []),
  (156, .aload_n 0, 157, 0, []),
  (157, .invokevirtual 83, 160, 0, []),
  (160, .i2l, 161, 0, []),
  (161, .ldc2_w 123, 164, 48, [(0, 1430)]),
  (164, .ldc2_w 125, 167, 57, [(0, 1431)]),
  (167, .invokestatic 66, 170, 0, []),
  (170, .ifCond .eq 32, 173, 202, []),
  (173, .bipush 10, 175, 0, [(10, 0)]),
  (175, .iload_n 3, 176, 3, []),
  (176, .imul, 177, 0, []),
  (177, .aload_n 0, 178, 0, []),
  (178, .invokevirtual 83, 181, 0, []),
  (181, .iadd, 182, 0, []),
  (182, .bipush 48, 184, 0, [(48, 0)]),
  (184, .isub, 185, 0, []),
  (185, .istore_n 3, 186, 3, []),
  (186, .aload_n 0, 187, 0, []),
  (187, .dup, 188, 0, []),
  (188, .getfield 70, 191, 5, []),
  (191, .iconst 1, 192, 0, [(1, 0)]),
  (192, .iadd, 193, 0, []),
  (193, .putfield 70, 196, 5, []),
  (196, .iinc 4 1, 199, 4, [(1, 0)]),
  (199, .goto (-49), 202, 150, []),
  (202, .iload 4, 204, 4, []),
  (204, .ifCond .ne 10, 207, 214, []),
  (207, .aload_n 0, 208, 0, []),
  (208, .invokevirtual 113, 211, 0, []),
  (211, .goto 4, 214, 215, []),
  (214, .iload_n 3, 215, 3, []),
  (215, .ireturn, 216, 0, [])]
def m_Model_unit : MI := (⟨"HandOverHorseModel", "unit", "()I"⟩, prog_14_method_23_code, 5, (some .int), p_Model_unit, 12)
def p_Model_worked : List PE := [(0, .aload_n 0, 1, 0, []),
  (1, .iload_n 1, 2, 1, []),
  (2, .putfield 80, 5, 4, []),
  (5, .aload_n 0, 6, 0, []),
  (6, .iconst 0, 7, 0, [(0, 0)]),
  (7, .putfield 70, 10, 5, []),
  (10, .aload_n 0, 11, 0, []),
  (11, .iload_n 2, 12, 2, []),
  (12, .putfield 74, 15, 6, []),
  (15, .aload_n 0, 16, 0, []),
  (16, .iconst (-1), 17, 0, [((-1), 0)]),
  (17, .putfield 77, 20, 7, []),
  (20, .aload_n 0, 21, 0, []),
  (21, .iconst 0, 22, 0, [(0, 0)]),
  (22, .putfield 110, 25, 8, []),
  (25, .aload_n 0, 26, 0, []),
  (26, .iload_n 3, 27, 3, []),
  (27, .iconst 1, 28, 0, [(1, 0)]),
  (28, .if_icmp .ne 7, 31, 35, []),
  (31, .iconst 1, 32, 0, [(1, 0)]),
  (32, .goto 4, 35, 36, []),
  (35, .iconst 0, 36, 0, [(0, 0)]),
  (36, .putfield 87, 39, 9, []),
  (39, .aload_n 0, 40, 0, []),
  (40, .invokevirtual 116, 43, 0, []),
  (43, .istore 4, 45, 4, []),
  (45, .aload_n 0, 46, 0, []),
  (46, .getfield 77, 49, 7, []),
  (49, .ifCond .ge 19, 52, 68, []),
  (52, .aload_n 0, 53, 0, []),
  (53, .getfield 70, 56, 5, []),
  (56, .aload_n 0, 57, 0, []),
  (57, .getfield 74, 60, 6, []),
  (60, .if_icmp .ge 8, 63, 68, []),
  (63, .aload_n 0, 64, 0, []),
  (64, .invokevirtual 113, 67, 0, []),
  (67, .ireturn, 68, 0, []),
  (68, .iload 4, 70, 4, []),
  (70, .ireturn, 71, 0, [])]
def m_Model_worked : MI := (⟨"HandOverHorseModel", "worked", "(III)I"⟩, prog_14_method_24_code, 5, (some .int), p_Model_worked, 12)
def p_Model_feed : List PE := [(0, .iload_n 3, 1, 3, []),
  (1, .i2l, 2, 0, []),
  (2, .lconst 1, 3, 1, []),
  (3, .ldc2_w 127, 6, 8, [(0, 1372)]),
  (6, .invokestatic 66, 9, 0, []),
  (9, .ifCond .ne 9, 12, 18, []),
  (12, .aload_n 0, 13, 0, []),
  (13, .iconst 1, 14, 0, [(1, 0)]),
  (14, .invokevirtual 129, 17, 0, []),
  (17, .ireturn, 18, 0, []),
  (18, .aload_n 0, 19, 0, []),
  (19, .getfield 7, 22, 0, []),
  (22, .iconst 3, 23, 0, [(3, 0)]),
  (23, .iaload, 24, 0, []),
  (24, .iload_n 3, 25, 3, []),
  (25, .iadd, 26, 0, []),
  (26, .bipush 50, 28, 0, [(50, 0)]),
  (28, .if_icmp .le 9, 31, 37, []),
  (31, .aload_n 0, 32, 0, []),
  (32, .iconst 4, 33, 0, [(4, 0)]),
  (33, .invokevirtual 129, 36, 0, []),
  (36, .ireturn, 37, 0, []),
  (37, .iconst 0, 38, 0, [(0, 0)]),
  (38, .istore 4, 40, 4, []),
  (40, .iload 4, 42, 4, []),
  (42, .iload_n 3, 43, 3, []),
  (43, .if_icmp .ge 46, 46, 89, []),
  (46, .aload_n 0, 47, 0, []),
  (47, .getfield 7, 50, 0, []),
  (50, .sipush 219, 53, 0, [(219, 0)]),
  (53, .aload_n 0, 54, 0, []),
  (54, .getfield 7, 57, 0, []),
  (57, .iconst 3, 58, 0, [(3, 0)]),
  (58, .iaload, 59, 0, []),
  (59, .iadd, 60, 0, []),
  (60, .lload_n 1, 61, 1, []),
  (61, .bipush 8, 63, 0, [(8, 0)]),
  (63, .iload 4, 65, 4, []),
  (65, .imul, 66, 0, []),
  (66, .lshr, 67, 0, []),
  (67, .ldc2_w 132, 70, 255, [(0, 1381)]),
  (70, .land, 71, 0, []),
  (71, .l2i, 72, 0, []),
  (72, .iastore, 73, 0, []),
  (73, .aload_n 0, 74, 0, []),
  (74, .getfield 7, 77, 0, []),
  (77, .iconst 3, 78, 0, [(3, 0)]),
  (78, .dup2, 79, 0, []),
  (79, .iaload, 80, 0, []),
  (80, .iconst 1, 81, 0, [(1, 0)]),
  (81, .iadd, 82, 0, []),
  (82, .iastore, 83, 0, []),
  (83, .iinc 4 1, 86, 4, [(1, 0)]),
  (86, .goto (-46), 89, 40, []),
  (89, .aload_n 0, 90, 0, []),
  (90, .getfield 7, 93, 0, []),
  (93, .iconst 3, 94, 0, [(3, 0)]),
  (94, .iaload, 95, 0, []),
  (95, .ireturn, 96, 0, [])]
def m_Model_feed : MI := (⟨"HandOverHorseModel", "feed", "(JI)I"⟩, prog_14_method_25_code, 5, (some .int), p_Model_feed, 12)
def p_Model_text : List PE := [(0, .iload_n 1, 1, 1, []),
  (1, .i2l, 2, 0, []),
  (2, .lconst 0, 3, 0, []),
  (3, .lconst 1, 4, 1, []),
  (4, .invokestatic 66, 7, 0, []),
  (7, .ifCond .ne 9, 10, 16, []),
  (10, .aload_n 0, 11, 0, []),
  (11, .iconst 1, 12, 0, [(1, 0)]),
  (12, .invokevirtual 129, 15, 0, []),
  (15, .ireturn, 16, 0, []),
  (16, .aload_n 0, 17, 0, []),
  (17, .getfield 7, 20, 0, []),
  (20, .iconst 3, 21, 0, [(3, 0)]),
  (21, .iaload, 22, 0, []),
  (22, .istore_n 2, 23, 2, []),
  (23, .aload_n 0, 24, 0, []),
  (24, .getfield 7, 27, 0, []),
  (27, .iconst 3, 28, 0, [(3, 0)]),
  (28, .iconst 0, 29, 0, [(0, 0)]),
  (29, .iastore, 30, 0, []),
  (30, .aload_n 0, 31, 0, []),
  (31, .sipush 219, 34, 0, [(219, 0)]),
  (34, .iload_n 2, 35, 2, []),
  (35, .iload_n 1, 36, 1, []),
  (36, .invokevirtual 134, 39, 0, []),
  (39, .istore_n 3, 40, 3, []),
  (40, .aload_n 0, 41, 0, []),
  (41, .getfield 77, 44, 7, []),
  (44, .ifCond .lt 11, 47, 55, []),
  (47, .bipush (-10), 49, 0, [((-10), 0)]),
  (49, .aload_n 0, 50, 0, []),
  (50, .getfield 77, 53, 7, []),
  (53, .isub, 54, 0, []),
  (54, .ireturn, 55, 0, []),
  (55, .aload_n 0, 56, 0, []),
  (56, .getfield 7, 59, 0, []),
  (59, .bipush 97, 61, 0, [(97, 0)]),
  (61, .iload_n 1, 62, 1, []),
  (62, .iadd, 63, 0, []),
  (63, .iload_n 2, 64, 2, []),
  (64, .iastore, 65, 0, []),
  (65, .iconst 0, 66, 0, [(0, 0)]),
  (66, .istore 4, 68, 4, []),
  (68, .iload 4, 70, 4, []),
  (70, .iload_n 2, 71, 2, []),
  (71, .if_icmp .ge 35, 74, 106, []),
  (74, .aload_n 0, 75, 0, []),
  (75, .getfield 7, 78, 0, []),
  (78, .bipush 119, 80, 0, [(119, 0)]),
  (80, .bipush 50, 82, 0, [(50, 0)]),
  (82, .iload_n 1, 83, 1, []),
  (83, .imul, 84, 0, []),
  (84, .iadd, 85, 0, []),
  (85, .iload 4, 87, 4, []),
  (87, .iadd, 88, 0, []),
  (88, .aload_n 0, 89, 0, []),
  (89, .getfield 7, 92, 0, []),
  (92, .sipush 219, 95, 0, [(219, 0)]),
  (95, .iload 4, 97, 4, []),
  (97, .iadd, 98, 0, []),
  (98, .iaload, 99, 0, []),
  (99, .iastore, 100, 0, []),
  (100, .iinc 4 1, 103, 4, [(1, 0)]),
  (103, .goto (-35), 106, 68, []),
  (106, .iconst 1, 107, 0, [(1, 0)]),
  (107, .ireturn, 108, 0, [])]
def m_Model_text : MI := (⟨"HandOverHorseModel", "text", "(I)I"⟩, prog_14_method_26_code, 5, (some .int), p_Model_text, 12)
def p_Model_gives : List PE := [(0, .iload_n 1, 1, 1, []),
  (1, .ifCond .ne 7, 4, 8, []),
  (4, .iconst 0, 5, 0, [(0, 0)]),
  (5, .goto 4, 8, 9, []),
  (8, .iload_n 2, 9, 2, []),
  (9, .istore 6, 11, 6, []),
  (11, .aload_n 0, 12, 0, []),
  (12, .getfield 7, 15, 0, []),
  (15, .bipush 97, 17, 0, [(97, 0)]),
  (17, .iload_n 1, 18, 1, []),
  (18, .iadd, 19, 0, []),
  (19, .iaload, 20, 0, []),
  (20, .ifCond .le 56, 23, 76, []),
  (23, .aload_n 0, 24, 0, []),
  (24, .getfield 19, 27, 10, []),
  (27, .iconst 0, 28, 0, [(0, 0)]),
  (28, .iload_n 2, 29, 2, []),
  (29, .iastore, 30, 0, []),
  (30, .aload_n 0, 31, 0, []),
  (31, .getfield 19, 34, 10, []),
  (34, .iconst 1, 35, 0, [(1, 0)]),
  (35, .iload_n 3, 36, 3, []),
  (36, .iastore, 37, 0, []),
  (37, .aload_n 0, 38, 0, []),
  (38, .getfield 19, 41, 10, []),
  (41, .iconst 2, 42, 0, [(2, 0)]),
  (42, .iload 4, 44, 4, []),
  (44, .iastore, 45, 0, []),
  (45, .aload_n 0, 46, 0, []),
  (46, .getfield 19, 49, 10, []),
  (49, .iconst 3, 50, 0, [(3, 0)]),
  (50, .iload 5, 52, 5, []),
  (52, .iastore, 53, 0, []),
  (53, .aload_n 0, 54, 0, []),
  (54, .bipush 119, 56, 0, [(119, 0)]),
  (56, .bipush 50, 58, 0, [(50, 0)]),
  (58, .iload_n 1, 59, 1, []),
  (59, .imul, 60, 0, []),
  (60, .iadd, 61, 0, []),
  (61, .aload_n 0, 62, 0, []),
  (62, .getfield 7, 65, 0, []),
  (65, .bipush 97, 67, 0, [(97, 0)]),
  (67, .iload_n 1, 68, 1, []),
  (68, .iadd, 69, 0, []),
  (69, .iaload, 70, 0, []),
  (70, .iload_n 1, 71, 1, []),
  (71, .invokevirtual 134, 74, 0, []),
  (74, .istore 6, 76, 6, []),
  (76, .iload_n 1, 77, 1, []),
  (77, .ifCond .ne 17, 80, 94, []),
  (80, .iload 6, 82, 6, []),
  (82, .sipush (-999), 85, 0, [((-999), 0)]),
  (85, .sipush 999, 88, 0, [(999, 0)]),
  (88, .invokestatic 138, 91, 0, []),
  (91, .goto 12, 94, 103, []),
  (94, .iload 6, 96, 6, []),
  (96, .iconst 0, 97, 0, [(0, 0)]),
  (97, .sipush 999, 100, 0, [(999, 0)]),
  (100, .invokestatic 138, 103, 0, []),
  (103, .ireturn, 104, 0, [])]
def m_Model_gives : MI := (⟨"HandOverHorseModel", "gives", "(IIIII)I"⟩, prog_14_method_27_code, 7, (some .int), p_Model_gives, 12)
def p_Model_law : List PE := [(0, .iload_n 1, 1, 1, []),
  (1, .i2l, 2, 0, []),
  (2, .lconst 0, 3, 0, []),
  (3, .lconst 1, 4, 1, []),
  (4, .invokestatic 66, 7, 0, []),
  (7, .ifCond .eq 17, 10, 24, []),
  (10, .aload_n 0, 11, 0, []),
  (11, .iload_n 1, 12, 1, []),
  (12, .iload_n 2, 13, 2, []),
  (13, .iload_n 3, 14, 3, []),
  (14, .iload 4, 16, 4, []),
  (16, .iload 5, 18, 5, []),
  (18, .invokevirtual 141, 21, 0, []),
  (21, .goto 8, 24, 29, []),
  (24, .aload_n 0, 25, 0, []),
  (25, .iconst 1, 26, 0, [(1, 0)]),
  (26, .invokevirtual 129, 29, 0, []),
  (29, .ireturn, 30, 0, [])]
def m_Model_law : MI := (⟨"HandOverHorseModel", "law", "(IIIII)I"⟩, prog_14_method_28_code, 6, (some .int), p_Model_law, 12)
def p_Model_stroke : List PE := [(0, .iload_n 1, 1, 1, []),
  (1, .i2l, 2, 0, []),
  (2, .lconst 0, 3, 0, []),
  (3, .ldc2_w 145, 6, 69, [(0, 1447)]),
  (6, .invokestatic 66, 9, 0, []),
  (9, .ifCond .eq 27, 12, 36, []),
  (12, .iload_n 2, 13, 2, []),
  (13, .i2l, 14, 0, []),
  (14, .lconst 0, 15, 0, []),
  (15, .ldc2_w 147, 18, 35, [(0, 1448)]),
  (18, .invokestatic 66, 21, 0, []),
  (21, .ifCond .eq 15, 24, 36, []),
  (24, .iload_n 3, 25, 3, []),
  (25, .i2l, 26, 0, []),
  (26, .lconst 0, 27, 0, []),
  (27, .ldc2_w 149, 30, 99, [(0, 1449)]),
  (30, .invokestatic 66, 33, 0, []),
  (33, .ifCond .ne 9, 36, 42, []),
  (36, .aload_n 0, 37, 0, []),
  (37, .iconst 1, 38, 0, [(1, 0)]),
  (38, .invokevirtual 129, 41, 0, []),
  (41, .ireturn, 42, 0, []),
  (42, .aload_n 0, 43, 0, []),
  (43, .getfield 7, 46, 0, []),
  (46, .iconst 0, 47, 0, [(0, 0)]),
  (47, .iaload, 48, 0, []),
  (48, .bipush 8, 50, 0, [(8, 0)]),
  (50, .if_icmp .ne 9, 53, 59, []),
  (53, .aload_n 0, 54, 0, []),
  (54, .iconst 4, 55, 0, [(4, 0)]),
  (55, .invokevirtual 129, 58, 0, []),
  (58, .ireturn, 59, 0, []),
  (59, .aload_n 0, 60, 0, []),
  (60, .getfield 7, 63, 0, []),
  (63, .iconst 0, 64, 0, [(0, 0)]),
  (64, .iaload, 65, 0, []),
  (65, .istore 4, 67, 4, []),
  (67, .aload_n 0, 68, 0, []),
  (68, .iload 4, 70, 4, []),
  (70, .iconst 0, 71, 0, [(0, 0)]),
  (71, .iload_n 1, 72, 1, []),
  (72, .bipush 10, 74, 0, [(10, 0)]),
  (74, .idiv, 75, 0, []),
  (75, .invokevirtual 151, 78, 0, []),
  (78, .aload_n 0, 79, 0, []),
  (79, .iload 4, 81, 4, []),
  (81, .iconst 1, 82, 0, [(1, 0)]),
  (82, .iload_n 1, 83, 1, []),
  (83, .bipush 10, 85, 0, [(10, 0)]),
  (85, .irem, 86, 0, []),
  (86, .invokevirtual 151, 89, 0, []),
  (89, .aload_n 0, 90, 0, []),
  (90, .iload 4, 92, 4, []),
  (92, .iconst 2, 93, 0, [(2, 0)]),
  (93, .iload_n 2, 94, 2, []),
  (94, .invokevirtual 151, 97, 0, []),
  (97, .aload_n 0, 98, 0, []),
  (98, .iload 4, 100, 4, []),
  (100, .iconst 3, 101, 0, [(3, 0)]),
  (101, .iload_n 3, 102, 3, []),
  (102, .invokevirtual 151, 105, 0, []),
  (105, .aload_n 0, 106, 0, []),
  (106, .iload 4, 108, 4, []),
  (108, .iconst 4, 109, 0, [(4, 0)]),
  (109, .iconst 0, 110, 0, [(0, 0)]),
  (110, .invokevirtual 151, 113, 0, []),
  (113, .aload_n 0, 114, 0, []),
  (114, .iload 4, 116, 4, []),
  (116, .iconst 5, 117, 0, [(5, 0)]),
  (117, .sipush 9999, 120, 0, [(9999, 0)]),
  (120, .invokevirtual 151, 123, 0, []),
  (123, .aload_n 0, 124, 0, []),
  (124, .iload 4, 126, 4, []),
  (126, .bipush 6, 128, 0, [(6, 0)]),
  (128, .iconst 0, 129, 0, [(0, 0)]),
  (129, .invokevirtual 151, 132, 0, []),
  (132, .aload_n 0, 133, 0, []),
  (133, .getfield 7, 136, 0, []),
  (136, .iconst 0, 137, 0, [(0, 0)]),
  (137, .dup2, 138, 0, []),
  (138, .iaload, 139, 0, []),
  (139, .iconst 1, 140, 0, [(1, 0)]),
  (140, .iadd, 141, 0, []),
  (141, .iastore, 142, 0, []),
  (142, .iload 4, 144, 4, []),
  (144, .ireturn, 145, 0, [])]
def m_Model_stroke : MI := (⟨"HandOverHorseModel", "stroke", "(III)I"⟩, prog_14_method_29_code, 5, (some .int), p_Model_stroke, 12)
def p_Model_dates : List PE := [(0, .aload_n 0, 1, 0, []),
  (1, .iconst 0, 2, 0, [(0, 0)]),
  (2, .aload_n 0, 3, 0, []),
  (3, .iload_n 1, 4, 1, []),
  (4, .bipush 6, 6, 0, [(6, 0)]),
  (6, .invokevirtual 155, 9, 0, []),
  (9, .aload_n 0, 10, 0, []),
  (10, .iload_n 1, 11, 1, []),
  (11, .iconst 1, 12, 0, [(1, 0)]),
  (12, .invokevirtual 155, 15, 0, []),
  (15, .aload_n 0, 16, 0, []),
  (16, .iload_n 1, 17, 1, []),
  (17, .iconst 0, 18, 0, [(0, 0)]),
  (18, .invokevirtual 155, 21, 0, []),
  (21, .aload_n 0, 22, 0, []),
  (22, .iload_n 1, 23, 1, []),
  (23, .iconst 3, 24, 0, [(3, 0)]),
  (24, .invokevirtual 155, 27, 0, []),
  (27, .invokevirtual 141, 30, 0, []),
  (30, .ireturn, 31, 0, [])]
def m_Model_dates : MI := (⟨"HandOverHorseModel", "dates", "(I)I"⟩, prog_14_method_30_code, 2, (some .int), p_Model_dates, 12)
def p_Model_earlyOf : List PE := [(0, .aload_n 0, 1, 0, []),
  (1, .iload_n 1, 2, 1, []),
  (2, .iconst 4, 3, 0, [(4, 0)]),
  (3, .invokevirtual 155, 6, 0, []),
  (6, .istore_n 2, 7, 2, []),
  (7, .aload_n 0, 8, 0, []),
  (8, .iload_n 1, 9, 1, []),
  (9, .iconst 1, 10, 0, [(1, 0)]),
  (10, .invokevirtual 155, 13, 0, []),
  (13, .istore_n 3, 14, 3, []),
  (14, .aload_n 0, 15, 0, []),
  (15, .iload_n 1, 16, 1, []),
  (16, .iconst 0, 17, 0, [(0, 0)]),
  (17, .invokevirtual 155, 20, 0, []),
  (20, .tableswitch 108 1 6 #[40, 108, 70, 47, 57, 80], 60, 128, [(1, 60), (2, 128), (3, 90), (4, 67), (5, 77), (6, 100)]),
  (60, .iload_n 2, 61, 2, []),
  (61, .iload_n 3, 62, 3, []),
  (62, .iadd, 63, 0, []),
  (63, .istore_n 2, 64, 2, []),
  (64, .goto 64, 67, 128, []),
  (67, .iload_n 2, 68, 2, []),
  (68, .iload_n 3, 69, 3, []),
  (69, .bipush 50, 71, 0, [(50, 0)]),
  (71, .iadd, 72, 0, []),
  (72, .iadd, 73, 0, []),
  (73, .istore_n 2, 74, 2, []),
  (74, .goto 54, 77, 128, []),
  (77, .iload_n 2, 78, 2, []),
  (78, .aload_n 0, 79, 0, []),
  (79, .iload_n 1, 80, 1, []),
  (80, .bipush 6, 82, 0, [(6, 0)]),
  (82, .invokevirtual 155, 85, 0, []),
  (85, .iadd, 86, 0, []),
  (86, .istore_n 2, 87, 2, []),
  (87, .goto 41, 90, 128, []),
  (90, .iload_n 2, 91, 2, []),
  (91, .bipush 10, 93, 0, [(10, 0)]),
  (93, .iload_n 3, 94, 3, []),
  (94, .imul, 95, 0, []),
  (95, .isub, 96, 0, []),
  (96, .istore_n 2, 97, 2, []),
  (97, .goto 31, 100, 128, []),
  (100, .iload_n 2, 101, 2, []),
  (101, .bipush 10, 103, 0, [(10, 0)]),
  (103, .iload_n 3, 104, 3, []),
  (104, .imul, 105, 0, []),
  (105, .isub, 106, 0, []),
  (106, .sipush 5000, 109, 0, [(5000, 0)]),
  (109, .if_icmp .ge 9, 112, 118, []),
  (112, .sipush 5000, 115, 0, [(5000, 0)]),
  (115, .goto 9, 118, 124, []),
  (118, .iload_n 2, 119, 2, []),
  (119, .bipush 10, 121, 0, [(10, 0)]),
  (121, .iload_n 3, 122, 3, []),
  (122, .imul, 123, 0, []),
  (123, .isub, 124, 0, []),
  (124, .istore_n 2, 125, 2, []),
  (125, .goto 3, 128, 128, []),
  (128, .iload_n 2, 129, 2, []),
  (129, .aload_n 0, 130, 0, []),
  (130, .iload_n 1, 131, 1, []),
  (131, .invokevirtual 159, 134, 0, []),
  (134, .iadd, 135, 0, []),
  (135, .iconst 0, 136, 0, [(0, 0)]),
  (136, .sipush 9999, 139, 0, [(9999, 0)]),
  (139, .invokestatic 138, 142, 0, []),
  (142, .ireturn, 143, 0, [])]
def m_Model_earlyOf : MI := (⟨"HandOverHorseModel", "earlyOf", "(I)I"⟩, prog_14_method_31_code, 4, (some .int), p_Model_earlyOf, 12)
def p_Model_lateOf : List PE := [(0, .aload_n 0, 1, 0, []),
  (1, .iload_n 1, 2, 1, []),
  (2, .iconst 5, 3, 0, [(5, 0)]),
  (3, .invokevirtual 155, 6, 0, []),
  (6, .istore_n 2, 7, 2, []),
  (7, .aload_n 0, 8, 0, []),
  (8, .iload_n 1, 9, 1, []),
  (9, .iconst 0, 10, 0, [(0, 0)]),
  (10, .invokevirtual 155, 13, 0, []),
  (13, .tableswitch 82 2 6 #[35, 82, 63, 48, 75], 48, 95, [(2, 48), (3, 95), (4, 76), (5, 61), (6, 88)]),
  (48, .iload_n 2, 49, 2, []),
  (49, .aload_n 0, 50, 0, []),
  (50, .iload_n 1, 51, 1, []),
  (51, .bipush 6, 53, 0, [(6, 0)]),
  (53, .invokevirtual 155, 56, 0, []),
  (56, .isub, 57, 0, []),
  (57, .istore_n 2, 58, 2, []),
  (58, .goto 37, 61, 95, []),
  (61, .iload_n 2, 62, 2, []),
  (62, .iconst 2, 63, 0, [(2, 0)]),
  (63, .aload_n 0, 64, 0, []),
  (64, .iload_n 1, 65, 1, []),
  (65, .bipush 6, 67, 0, [(6, 0)]),
  (67, .invokevirtual 155, 70, 0, []),
  (70, .imul, 71, 0, []),
  (71, .isub, 72, 0, []),
  (72, .istore_n 2, 73, 2, []),
  (73, .goto 22, 76, 95, []),
  (76, .iload_n 2, 77, 2, []),
  (77, .aload_n 0, 78, 0, []),
  (78, .iload_n 1, 79, 1, []),
  (79, .iconst 1, 80, 0, [(1, 0)]),
  (80, .invokevirtual 155, 83, 0, []),
  (83, .isub, 84, 0, []),
  (84, .istore_n 2, 85, 2, []),
  (85, .goto 10, 88, 95, []),
  (88, .sipush 9999, 91, 0, [(9999, 0)]),
  (91, .istore_n 2, 92, 2, []),
  (92, .goto 3, 95, 95, []),
  (95, .iload_n 2, 96, 2, []),
  (96, .aload_n 0, 97, 0, []),
  (97, .iload_n 1, 98, 1, []),
  (98, .invokevirtual 159, 101, 0, []),
  (101, .iadd, 102, 0, []),
  (102, .iconst 0, 103, 0, [(0, 0)]),
  (103, .sipush 9999, 106, 0, [(9999, 0)]),
  (106, .invokestatic 138, 109, 0, []),
  (109, .ireturn, 110, 0, [])]
def m_Model_lateOf : MI := (⟨"HandOverHorseModel", "lateOf", "(I)I"⟩, prog_14_method_32_code, 3, (some .int), p_Model_lateOf, 12)
def p_Model_stuffOf : List PE := [(0, .iload_n 0, 1, 0, []),
  (1, .iconst 4, 2, 0, [(4, 0)]),
  (2, .if_icmp .ge 7, 5, 9, []),
  (5, .iload_n 0, 6, 0, []),
  (6, .goto 6, 9, 12, []),
  (9, .iload_n 0, 10, 0, []),
  (10, .iconst 3, 11, 0, [(3, 0)]),
  (11, .isub, 12, 0, []),
  (12, .ireturn, 13, 0, [])]
def m_Model_stuffOf : MI := (⟨"HandOverHorseModel", "stuffOf", "(I)I"⟩, prog_14_method_33_code, 1, (some .int), p_Model_stuffOf, 12)
def p_Model_stuff : List PE := [(0, .aload_n 0, 1, 0, []),
  (1, .iload_n 1, 2, 1, []),
  (2, .iconst 0, 3, 0, [(0, 0)]),
  (3, .invokevirtual 155, 6, 0, []),
  (6, .invokestatic 162, 9, 0, []),
  (9, .ireturn, 10, 0, [])]
def m_Model_stuff : MI := (⟨"HandOverHorseModel", "stuff", "(I)I"⟩, prog_14_method_34_code, 2, (some .int), p_Model_stuff, 12)
def p_Model_ofStroke : List PE := [(0, .aload_n 0, 1, 0, []),
  (1, .iload_n 1, 2, 1, []),
  (2, .invokevirtual 165, 5, 0, []),
  (5, .ifCond .eq 15, 8, 20, []),
  (8, .iload_n 2, 9, 2, []),
  (9, .i2l, 10, 0, []),
  (10, .lconst 0, 11, 0, []),
  (11, .ldc2_w 168, 14, 9, [(0, 1462)]),
  (14, .invokestatic 66, 17, 0, []),
  (17, .ifCond .ne 9, 20, 26, []),
  (20, .aload_n 0, 21, 0, []),
  (21, .iconst 1, 22, 0, [(1, 0)]),
  (22, .invokevirtual 129, 25, 0, []),
  (25, .ireturn, 26, 0, []),
  (26, .iload_n 2, 27, 2, []),
  (27, .bipush 7, 29, 0, [(7, 0)]),
  (29, .if_icmp .ge 12, 32, 41, []),
  (32, .aload_n 0, 33, 0, []),
  (33, .iload_n 1, 34, 1, []),
  (34, .iload_n 2, 35, 2, []),
  (35, .invokevirtual 155, 38, 0, []),
  (38, .goto 36, 41, 74, []),
  (41, .iload_n 2, 42, 2, []),
  (42, .bipush 7, 44, 0, [(7, 0)]),
  (44, .if_icmp .ne 11, 47, 55, []),
  (47, .aload_n 0, 48, 0, []),
  (48, .iload_n 1, 49, 1, []),
  (49, .invokevirtual 170, 52, 0, []),
  (52, .goto 22, 55, 74, []),
  (55, .iload_n 2, 56, 2, []),
  (56, .bipush 8, 58, 0, [(8, 0)]),
  (58, .if_icmp .ne 11, 61, 69, []),
  (61, .aload_n 0, 62, 0, []),
  (62, .iload_n 1, 63, 1, []),
  (63, .invokevirtual 173, 66, 0, []),
  (66, .goto 8, 69, 74, []),
  (69, .aload_n 0, 70, 0, []),
  (70, .iload_n 1, 71, 1, []),
  (71, .invokevirtual 176, 74, 0, []),
  (74, .ireturn, 75, 0, [])]
def m_Model_ofStroke : MI := (⟨"HandOverHorseModel", "ofStroke", "(II)I"⟩, prog_14_method_35_code, 3, (some .int), p_Model_ofStroke, 12)
def p_Model_mostOf : List PE := [(0, .iload_n 0, 1, 0, []),
  (1, .iconst 2, 2, 0, [(2, 0)]),
  (2, .if_icmp .ne 8, 5, 10, []),
  (5, .bipush 35, 7, 0, [(35, 0)]),
  (7, .goto 36, 10, 43, []),
  (10, .iload_n 0, 11, 0, []),
  (11, .iconst 3, 12, 0, [(3, 0)]),
  (12, .if_icmp .eq 9, 15, 21, []),
  (15, .iload_n 0, 16, 0, []),
  (16, .bipush 6, 18, 0, [(6, 0)]),
  (18, .if_icmp .ne 8, 21, 26, []),
  (21, .bipush 99, 23, 0, [(99, 0)]),
  (23, .goto 20, 26, 43, []),
  (26, .iload_n 0, 27, 0, []),
  (27, .iconst 4, 28, 0, [(4, 0)]),
  (28, .if_icmp .eq 8, 31, 36, []),
  (31, .iload_n 0, 32, 0, []),
  (32, .iconst 5, 33, 0, [(5, 0)]),
  (33, .if_icmp .ne 9, 36, 42, []),
  (36, .sipush 9999, 39, 0, [(9999, 0)]),
  (39, .goto 4, 42, 43, []),
  (42, .iconst (-1), 43, 0, [((-1), 0)]),
  (43, .ireturn, 44, 0, [])]
def m_Model_mostOf : MI := (⟨"HandOverHorseModel", "mostOf", "(I)I"⟩, prog_14_method_36_code, 1, (some .int), p_Model_mostOf, 12)
def p_Model_change : List PE := [(0, .aload_n 0, 1, 0, []),
  (1, .iload_n 1, 2, 1, []),
  (2, .invokevirtual 165, 5, 0, []),
  (5, .ifCond .eq 17, 8, 22, []),
  (8, .iload_n 3, 9, 3, []),
  (9, .i2l, 10, 0, []),
  (10, .lconst 0, 11, 0, []),
  (11, .iload_n 2, 12, 2, []),
  (12, .invokestatic 179, 15, 0, []),
  (15, .i2l, 16, 0, []),
  (16, .invokestatic 66, 19, 0, []),
  (19, .ifCond .ne 9, 22, 28, []),
  (22, .aload_n 0, 23, 0, []),
  (23, .iconst 1, 24, 0, [(1, 0)]),
  (24, .invokevirtual 129, 27, 0, []),
  (27, .ireturn, 28, 0, []),
  (28, .aload_n 0, 29, 0, []),
  (29, .iload_n 1, 30, 1, []),
  (30, .iload_n 2, 31, 2, []),
  (31, .invokevirtual 155, 34, 0, []),
  (34, .istore 4, 36, 4, []),
  (36, .aload_n 0, 37, 0, []),
  (37, .iload_n 1, 38, 1, []),
  (38, .iload_n 2, 39, 2, []),
  (39, .iload_n 3, 40, 3, []),
  (40, .invokevirtual 151, 43, 0, []),
  (43, .iload 4, 45, 4, []),
  (45, .ireturn, 46, 0, [])]
def m_Model_change : MI := (⟨"HandOverHorseModel", "change", "(III)I"⟩, prog_14_method_37_code, 5, (some .int), p_Model_change, 12)
def p_Model_become : List PE := [(0, .aload_n 0, 1, 0, []),
  (1, .iload_n 1, 2, 1, []),
  (2, .invokevirtual 165, 5, 0, []),
  (5, .ifCond .eq 15, 8, 20, []),
  (8, .iload_n 2, 9, 2, []),
  (9, .i2l, 10, 0, []),
  (10, .lconst 0, 11, 0, []),
  (11, .ldc2_w 145, 14, 69, [(0, 1447)]),
  (14, .invokestatic 66, 17, 0, []),
  (17, .ifCond .ne 9, 20, 26, []),
  (20, .aload_n 0, 21, 0, []),
  (21, .iconst 1, 22, 0, [(1, 0)]),
  (22, .invokevirtual 129, 25, 0, []),
  (25, .ireturn, 26, 0, []),
  (26, .aload_n 0, 27, 0, []),
  (27, .iload_n 1, 28, 1, []),
  (28, .iconst 0, 29, 0, [(0, 0)]),
  (29, .invokevirtual 155, 32, 0, []),
  (32, .istore_n 3, 33, 3, []),
  (33, .aload_n 0, 34, 0, []),
  (34, .iload_n 1, 35, 1, []),
  (35, .iconst 0, 36, 0, [(0, 0)]),
  (36, .iload_n 2, 37, 2, []),
  (37, .bipush 10, 39, 0, [(10, 0)]),
  (39, .idiv, 40, 0, []),
  (40, .invokevirtual 151, 43, 0, []),
  (43, .aload_n 0, 44, 0, []),
  (44, .iload_n 1, 45, 1, []),
  (45, .iconst 1, 46, 0, [(1, 0)]),
  (46, .iload_n 2, 47, 2, []),
  (47, .bipush 10, 49, 0, [(10, 0)]),
  (49, .irem, 50, 0, []),
  (50, .invokevirtual 151, 53, 0, []),
  (53, .iload_n 3, 54, 3, []),
  (54, .ireturn, 55, 0, [])]
def m_Model_become : MI := (⟨"HandOverHorseModel", "become", "(II)I"⟩, prog_14_method_38_code, 4, (some .int), p_Model_become, 12)
def p_Model_above : List PE := [(0, .iload_n 0, 1, 0, []),
  (1, .iconst 4, 2, 0, [(4, 0)]),
  (2, .if_icmp .ge 7, 5, 9, []),
  (5, .iconst 0, 6, 0, [(0, 0)]),
  (6, .goto 6, 9, 12, []),
  (9, .iload_n 0, 10, 0, []),
  (10, .iconst 3, 11, 0, [(3, 0)]),
  (11, .isub, 12, 0, []),
  (12, .ireturn, 13, 0, [])]
def m_Model_above : MI := (⟨"HandOverHorseModel", "above", "(I)I"⟩, prog_14_method_39_code, 1, (some .int), p_Model_above, 12)
def p_Model_as : List PE := [(0, .aload_n 0, 1, 0, []),
  (1, .iload_n 1, 2, 1, []),
  (2, .invokevirtual 165, 5, 0, []),
  (5, .ifCond .eq 15, 8, 20, []),
  (8, .iload_n 2, 9, 2, []),
  (9, .i2l, 10, 0, []),
  (10, .lconst 0, 11, 0, []),
  (11, .ldc2_w 182, 14, 6, [(0, 1501)]),
  (14, .invokestatic 66, 17, 0, []),
  (17, .ifCond .ne 9, 20, 26, []),
  (20, .aload_n 0, 21, 0, []),
  (21, .iconst 1, 22, 0, [(1, 0)]),
  (22, .invokevirtual 129, 25, 0, []),
  (25, .ireturn, 26, 0, []),
  (26, .aload_n 0, 27, 0, []),
  (27, .iload_n 1, 28, 1, []),
  (28, .iconst 0, 29, 0, [(0, 0)]),
  (29, .invokevirtual 155, 32, 0, []),
  (32, .istore_n 3, 33, 3, []),
  (33, .iload_n 2, 34, 2, []),
  (34, .ifCond .eq 16, 37, 50, []),
  (37, .iload_n 2, 38, 2, []),
  (38, .iload_n 3, 39, 3, []),
  (39, .if_icmp .eq 11, 42, 50, []),
  (42, .iload_n 2, 43, 2, []),
  (43, .iload_n 3, 44, 3, []),
  (44, .invokestatic 184, 47, 0, []),
  (47, .if_icmp .ne 12, 50, 59, []),
  (50, .aload_n 0, 51, 0, []),
  (51, .iload_n 1, 52, 1, []),
  (52, .iconst 1, 53, 0, [(1, 0)]),
  (53, .invokevirtual 155, 56, 0, []),
  (56, .goto 8, 59, 64, []),
  (59, .aload_n 0, 60, 0, []),
  (60, .iconst 5, 61, 0, [(5, 0)]),
  (61, .invokevirtual 129, 64, 0, []),
  (64, .ireturn, 65, 0, [])]
def m_Model_as : MI := (⟨"HandOverHorseModel", "as", "(II)I"⟩, prog_14_method_40_code, 4, (some .int), p_Model_as, 12)
def p_Model_isTold : List PE := [(0, .aload_n 0, 1, 0, []),
  (1, .iload_n 1, 2, 1, []),
  (2, .invokevirtual 165, 5, 0, []),
  (5, .ifCond .eq 32, 8, 37, []),
  (8, .aload_n 0, 9, 0, []),
  (9, .iload_n 2, 10, 2, []),
  (10, .invokevirtual 165, 13, 0, []),
  (13, .ifCond .eq 24, 16, 37, []),
  (16, .iload_n 1, 17, 1, []),
  (17, .iload_n 2, 18, 2, []),
  (18, .if_icmp .eq 19, 21, 37, []),
  (21, .iload_n 3, 22, 3, []),
  (22, .i2l, 23, 0, []),
  (23, .lconst 1, 24, 1, []),
  (24, .ldc2_w 149, 27, 99, [(0, 1449)]),
  (27, .invokestatic 66, 30, 0, []),
  (30, .ifCond .eq 7, 33, 37, []),
  (33, .iconst 1, 34, 0, [(1, 0)]),
  (34, .goto 4, 37, 38, []),
  (37, .iconst 0, 38, 0, [(0, 0)]),
  (38, .ireturn, 39, 0, [])]
def m_Model_isTold : MI := (⟨"HandOverHorseModel", "isTold", "(III)Z"⟩, prog_14_method_41_code, 4, (some .boolean), p_Model_isTold, 12)
def p_Model_lookComes : List PE := [(0, .aload_n 0, 1, 0, []),
  (1, .getfield 7, 4, 0, []),
  (4, .iconst 1, 5, 0, [(1, 0)]),
  (5, .iaload, 6, 0, []),
  (6, .istore 4, 8, 4, []),
  (8, .aload_n 0, 9, 0, []),
  (9, .getfield 7, 12, 0, []),
  (12, .bipush 61, 14, 0, [(61, 0)]),
  (14, .iconst 3, 15, 0, [(3, 0)]),
  (15, .iload 4, 17, 4, []),
  (17, .imul, 18, 0, []),
  (18, .iadd, 19, 0, []),
  (19, .iload_n 1, 20, 1, []),
  (20, .iastore, 21, 0, []),
  (21, .aload_n 0, 22, 0, []),
  (22, .getfield 7, 25, 0, []),
  (25, .bipush 61, 27, 0, [(61, 0)]),
  (27, .iconst 3, 28, 0, [(3, 0)]),
  (28, .iload 4, 30, 4, []),
  (30, .imul, 31, 0, []),
  (31, .iadd, 32, 0, []),
  (32, .iconst 1, 33, 0, [(1, 0)]),
  (33, .iadd, 34, 0, []),
  (34, .iload_n 2, 35, 2, []),
  (35, .iastore, 36, 0, []),
  (36, .aload_n 0, 37, 0, []),
  (37, .getfield 7, 40, 0, []),
  (40, .bipush 61, 42, 0, [(61, 0)]),
  (42, .iconst 3, 43, 0, [(3, 0)]),
  (43, .iload 4, 45, 4, []),
  (45, .imul, 46, 0, []),
  (46, .iadd, 47, 0, []),
  (47, .iconst 2, 48, 0, [(2, 0)]),
  (48, .iadd, 49, 0, []),
  (49, .iload_n 3, 50, 3, []),
  (50, .iastore, 51, 0, []),
  (51, .aload_n 0, 52, 0, []),
  (52, .getfield 7, 55, 0, []),
  (55, .iconst 1, 56, 0, [(1, 0)]),
  (56, .dup2, 57, 0, []),
  (57, .iaload, 58, 0, []),
  (58, .iconst 1, 59, 0, [(1, 0)]),
  (59, .iadd, 60, 0, []),
  (60, .iastore, 61, 0, []),
  (61, .iload 4, 63, 4, []),
  (63, .ireturn, 64, 0, [])]
def m_Model_lookComes : MI := (⟨"HandOverHorseModel", "lookComes", "(III)I"⟩, prog_14_method_42_code, 5, (some .int), p_Model_lookComes, 12)
def p_Model_over : List PE := [(0, .aload_n 0, 1, 0, []),
  (1, .iload_n 1, 2, 1, []),
  (2, .iload_n 2, 3, 2, []),
  (3, .iload_n 3, 4, 3, []),
  (4, .invokevirtual 187, 7, 0, []),
  (7, .ifCond .ne 9, 10, 16, []),
  (10, .aload_n 0, 11, 0, []),
  (11, .iconst 1, 12, 0, [(1, 0)]),
  (12, .invokevirtual 129, 15, 0, []),
  (15, .ireturn, 16, 0, []),
  (16, .aload_n 0, 17, 0, []),
  (17, .getfield 7, 20, 0, []),
  (20, .iconst 1, 21, 0, [(1, 0)]),
  (21, .iaload, 22, 0, []),
  (22, .bipush 12, 24, 0, [(12, 0)]),
  (24, .if_icmp .ne 11, 27, 35, []),
  (27, .aload_n 0, 28, 0, []),
  (28, .iconst 4, 29, 0, [(4, 0)]),
  (29, .invokevirtual 129, 32, 0, []),
  (32, .goto 10, 35, 42, []),
  (35, .aload_n 0, 36, 0, []),
  (36, .iload_n 1, 37, 1, []),
  (37, .iload_n 2, 38, 2, []),
  (38, .iload_n 3, 39, 3, []),
  (39, .invokevirtual 191, 42, 0, []),
  (42, .ireturn, 43, 0, [])]
def m_Model_over : MI := (⟨"HandOverHorseModel", "over", "(III)I"⟩, prog_14_method_43_code, 4, (some .int), p_Model_over, 12)
def p_Model_weightOf : List PE := [(0, .aload_n 0, 1, 0, []),
  (1, .iconst 1, 2, 0, [(1, 0)]),
  (2, .aload_n 0, 3, 0, []),
  (3, .getfield 7, 6, 0, []),
  (6, .bipush 61, 8, 0, [(61, 0)]),
  (8, .iconst 3, 9, 0, [(3, 0)]),
  (9, .iload_n 1, 10, 1, []),
  (10, .imul, 11, 0, []),
  (11, .iadd, 12, 0, []),
  (12, .iconst 2, 13, 0, [(2, 0)]),
  (13, .iadd, 14, 0, []),
  (14, .iaload, 15, 0, []),
  (15, .aload_n 0, 16, 0, []),
  (16, .aload_n 0, 17, 0, []),
  (17, .iload_n 1, 18, 1, []),
  (18, .invokevirtual 194, 21, 0, []),
  (21, .iconst 0, 22, 0, [(0, 0)]),
  (22, .invokevirtual 155, 25, 0, []),
  (25, .aload_n 0, 26, 0, []),
  (26, .aload_n 0, 27, 0, []),
  (27, .iload_n 1, 28, 1, []),
  (28, .invokevirtual 194, 31, 0, []),
  (31, .bipush 6, 33, 0, [(6, 0)]),
  (33, .invokevirtual 155, 36, 0, []),
  (36, .iconst 0, 37, 0, [(0, 0)]),
  (37, .invokevirtual 141, 40, 0, []),
  (40, .ireturn, 41, 0, [])]
def m_Model_weightOf : MI := (⟨"HandOverHorseModel", "weightOf", "(I)I"⟩, prog_14_method_44_code, 2, (some .int), p_Model_weightOf, 12)
def p_Model_ofLook : List PE := [(0, .aload_n 0, 1, 0, []),
  (1, .iload_n 1, 2, 1, []),
  (2, .invokevirtual 197, 5, 0, []),
  (5, .ifCond .eq 15, 8, 20, []),
  (8, .iload_n 2, 9, 2, []),
  (9, .i2l, 10, 0, []),
  (10, .lconst 0, 11, 0, []),
  (11, .ldc2_w 200, 14, 3, [(0, 1525)]),
  (14, .invokestatic 66, 17, 0, []),
  (17, .ifCond .ne 9, 20, 26, []),
  (20, .aload_n 0, 21, 0, []),
  (21, .iconst 1, 22, 0, [(1, 0)]),
  (22, .invokevirtual 129, 25, 0, []),
  (25, .ireturn, 26, 0, []),
  (26, .iload_n 2, 27, 2, []),
  (27, .iconst 3, 28, 0, [(3, 0)]),
  (28, .if_icmp .ge 19, 31, 47, []),
  (31, .aload_n 0, 32, 0, []),
  (32, .getfield 7, 35, 0, []),
  (35, .bipush 61, 37, 0, [(61, 0)]),
  (37, .iconst 3, 38, 0, [(3, 0)]),
  (38, .iload_n 1, 39, 1, []),
  (39, .imul, 40, 0, []),
  (40, .iadd, 41, 0, []),
  (41, .iload_n 2, 42, 2, []),
  (42, .iadd, 43, 0, []),
  (43, .iaload, 44, 0, []),
  (44, .goto 8, 47, 52, []),
  (47, .aload_n 0, 48, 0, []),
  (48, .iload_n 1, 49, 1, []),
  (49, .invokevirtual 202, 52, 0, []),
  (52, .ireturn, 53, 0, [])]
def m_Model_ofLook : MI := (⟨"HandOverHorseModel", "ofLook", "(II)I"⟩, prog_14_method_45_code, 3, (some .int), p_Model_ofLook, 12)
def p_Model_see : List PE := [(0, .aload_n 0, 1, 0, []),
  (1, .iload_n 1, 2, 1, []),
  (2, .invokevirtual 197, 5, 0, []),
  (5, .ifCond .eq 15, 8, 20, []),
  (8, .iload_n 2, 9, 2, []),
  (9, .i2l, 10, 0, []),
  (10, .lconst 1, 11, 1, []),
  (11, .ldc2_w 149, 14, 99, [(0, 1449)]),
  (14, .invokestatic 66, 17, 0, []),
  (17, .ifCond .ne 9, 20, 26, []),
  (20, .aload_n 0, 21, 0, []),
  (21, .iconst 1, 22, 0, [(1, 0)]),
  (22, .invokevirtual 129, 25, 0, []),
  (25, .ireturn, 26, 0, []),
  (26, .aload_n 0, 27, 0, []),
  (27, .getfield 7, 30, 0, []),
  (30, .bipush 61, 32, 0, [(61, 0)]),
  (32, .iconst 3, 33, 0, [(3, 0)]),
  (33, .iload_n 1, 34, 1, []),
  (34, .imul, 35, 0, []),
  (35, .iadd, 36, 0, []),
  (36, .iconst 2, 37, 0, [(2, 0)]),
  (37, .iadd, 38, 0, []),
  (38, .iaload, 39, 0, []),
  (39, .istore_n 3, 40, 3, []),
  (40, .aload_n 0, 41, 0, []),
  (41, .getfield 7, 44, 0, []),
  (44, .bipush 61, 46, 0, [(61, 0)]),
  (46, .iconst 3, 47, 0, [(3, 0)]),
  (47, .iload_n 1, 48, 1, []),
  (48, .imul, 49, 0, []),
  (49, .iadd, 50, 0, []),
  (50, .iconst 2, 51, 0, [(2, 0)]),
  (51, .iadd, 52, 0, []),
  (52, .iload_n 2, 53, 2, []),
  (53, .iastore, 54, 0, []),
  (54, .iload_n 3, 55, 3, []),
  (55, .ireturn, 56, 0, [])]
def m_Model_see : MI := (⟨"HandOverHorseModel", "see", "(II)I"⟩, prog_14_method_46_code, 4, (some .int), p_Model_see, 12)
def p_Model_forget : List PE := [(0, .aload_n 0, 1, 0, []),
  (1, .getfield 7, 4, 0, []),
  (4, .iconst 1, 5, 0, [(1, 0)]),
  (5, .iaload, 6, 0, []),
  (6, .ifCond .ne 9, 9, 15, []),
  (9, .aload_n 0, 10, 0, []),
  (10, .iconst 3, 11, 0, [(3, 0)]),
  (11, .invokevirtual 129, 14, 0, []),
  (14, .ireturn, 15, 0, []),
  (15, .aload_n 0, 16, 0, []),
  (16, .getfield 7, 19, 0, []),
  (19, .iconst 1, 20, 0, [(1, 0)]),
  (20, .dup2, 21, 0, []),
  (21, .iaload, 22, 0, []),
  (22, .iconst 1, 23, 0, [(1, 0)]),
  (23, .isub, 24, 0, []),
  (24, .iastore, 25, 0, []),
  (25, .aload_n 0, 26, 0, []),
  (26, .getfield 7, 29, 0, []),
  (29, .iconst 1, 30, 0, [(1, 0)]),
  (30, .iaload, 31, 0, []),
  (31, .ireturn, 32, 0, [])]
def m_Model_forget : MI := (⟨"HandOverHorseModel", "forget", "()I"⟩, prog_14_method_47_code, 1, (some .int), p_Model_forget, 12)
def p_Model_allStrokes : List PE := [(0, .iconst 1, 1, 0, [(1, 0)]),
  (1, .aload_n 0, 2, 0, []),
  (2, .getfield 7, 5, 0, []),
  (5, .iconst 0, 6, 0, [(0, 0)]),
  (6, .iaload, 7, 0, []),
  (7, .ishl, 8, 0, []),
  (8, .iconst 1, 9, 0, [(1, 0)]),
  (9, .isub, 10, 0, []),
  (10, .ireturn, 11, 0, [])]
def m_Model_allStrokes : MI := (⟨"HandOverHorseModel", "allStrokes", "()I"⟩, prog_14_method_48_code, 1, (some .int), p_Model_allStrokes, 12)
def p_Model_findBelow : List PE := [(0, .iconst 0, 1, 0, [(0, 0)]),
  (1, .istore_n 1, 2, 1, []),
  (2, .iload_n 1, 3, 1, []),
  (3, .aload_n 0, 4, 0, []),
  (4, .getfield 7, 7, 0, []),
  (7, .iconst 0, 8, 0, [(0, 0)]),
  (8, .iaload, 9, 0, []),
  (9, .if_icmp .ge 16, 12, 25, []),
  (12, .aload_n 0, 13, 0, []),
  (13, .getfield 22, 16, 11, []),
  (16, .iload_n 1, 17, 1, []),
  (17, .iconst 0, 18, 0, [(0, 0)]),
  (18, .iastore, 19, 0, []),
  (19, .iinc 1 1, 22, 1, [(1, 0)]),
  (22, .goto (-20), 25, 2, []),
  (25, .iconst 0, 26, 0, [(0, 0)]),
  (26, .istore_n 1, 27, 1, []),
  (27, .iload_n 1, 28, 1, []),
  (28, .aload_n 0, 29, 0, []),
  (29, .getfield 7, 32, 0, []),
  (32, .iconst 1, 33, 0, [(1, 0)]),
  (33, .iaload, 34, 0, []),
  (34, .if_icmp .ge 29, 37, 63, []),
  (37, .aload_n 0, 38, 0, []),
  (38, .getfield 22, 41, 11, []),
  (41, .aload_n 0, 42, 0, []),
  (42, .iload_n 1, 43, 1, []),
  (43, .invokevirtual 194, 46, 0, []),
  (46, .dup2, 47, 0, []),
  (47, .iaload, 48, 0, []),
  (48, .iconst 1, 49, 0, [(1, 0)]),
  (49, .aload_n 0, 50, 0, []),
  (50, .iload_n 1, 51, 1, []),
  (51, .invokevirtual 205, 54, 0, []),
  (54, .ishl, 55, 0, []),
  (55, .ior, 56, 0, []),
  (56, .iastore, 57, 0, []),
  (57, .iinc 1 1, 60, 1, [(1, 0)]),
  (60, .goto (-33), 63, 27, []),
  (63, .return_, 64, 0, [])]
def m_Model_findBelow : MI := (⟨"HandOverHorseModel", "findBelow", "()V"⟩, prog_14_method_49_code, 2, none, p_Model_findBelow, 12)
def p_Model_mayLie : List PE := [(0, .iload_n 2, 1, 2, []),
  (1, .iload_n 1, 2, 1, []),
  (2, .ishr, 3, 0, []),
  (3, .iconst 1, 4, 0, [(1, 0)]),
  (4, .iand, 5, 0, []),
  (5, .ifCond .ne 20, 8, 25, []),
  (8, .aload_n 0, 9, 0, []),
  (9, .getfield 22, 12, 11, []),
  (12, .iload_n 1, 13, 1, []),
  (13, .iaload, 14, 0, []),
  (14, .iload_n 2, 15, 2, []),
  (15, .iconst (-1), 16, 0, [((-1), 0)]),
  (16, .ixor, 17, 0, []),
  (17, .iand, 18, 0, []),
  (18, .ifCond .ne 7, 21, 25, []),
  (21, .iconst 1, 22, 0, [(1, 0)]),
  (22, .goto 4, 25, 26, []),
  (25, .iconst 0, 26, 0, [(0, 0)]),
  (26, .ireturn, 27, 0, [])]
def m_Model_mayLie : MI := (⟨"HandOverHorseModel", "mayLie", "(II)Z"⟩, prog_14_method_50_code, 3, (some .boolean), p_Model_mayLie, 12)
def p_Model_countWays : List PE := [(0, .aload_n 0, 1, 0, []),
  (1, .invokevirtual 208, 4, 0, []),
  (4, .aload_n 0, 5, 0, []),
  (5, .invokevirtual 211, 8, 0, []),
  (8, .istore_n 1, 9, 1, []),
  (9, .iconst 0, 10, 0, [(0, 0)]),
  (10, .istore_n 2, 11, 2, []),
  (11, .iload_n 2, 12, 2, []),
  (12, .iload_n 1, 13, 1, []),
  (13, .if_icmp .gt 40, 16, 53, []),
  (16, .aload_n 0, 17, 0, []),
  (17, .getfield 25, 20, 12, []),
  (20, .iload_n 2, 21, 2, []),
  (21, .iload_n 2, 22, 2, []),
  (22, .ifCond .ne 7, 25, 29, []),
  (25, .iconst 1, 26, 0, [(1, 0)]),
  (26, .goto 4, 29, 30, []),
  (29, .iconst 0, 30, 0, [(0, 0)]),
  (30, .iastore, 31, 0, []),
  (31, .aload_n 0, 32, 0, []),
  (32, .getfield 28, 35, 13, []),
  (35, .iload_n 2, 36, 2, []),
  (36, .iload_n 2, 37, 2, []),
  (37, .iload_n 1, 38, 1, []),
  (38, .if_icmp .ne 7, 41, 45, []),
  (41, .iconst 1, 42, 0, [(1, 0)]),
  (42, .goto 4, 45, 46, []),
  (45, .iconst 0, 46, 0, [(0, 0)]),
  (46, .iastore, 47, 0, []),
  (47, .iinc 2 1, 50, 2, [(1, 0)]),
  (50, .goto (-39), 53, 11, []),
  (53, .iconst 0, 54, 0, [(0, 0)]),
  (54, .istore_n 2, 55, 2, []),
  (55, .iload_n 2, 56, 2, []),
  (56, .iload_n 1, 57, 1, []),
  (57, .if_icmp .gt 55, 60, 112, []),
  (60, .iconst 0, 61, 0, [(0, 0)]),
  (61, .istore_n 3, 62, 3, []),
  (62, .iload_n 3, 63, 3, []),
  (63, .aload_n 0, 64, 0, []),
  (64, .getfield 7, 67, 0, []),
  (67, .iconst 0, 68, 0, [(0, 0)]),
  (68, .iaload, 69, 0, []),
  (69, .if_icmp .ge 37, 72, 106, []),
  (72, .aload_n 0, 73, 0, []),
  (73, .iload_n 3, 74, 3, []),
  (74, .iload_n 2, 75, 2, []),
  (75, .invokevirtual 214, 78, 0, []),
  (78, .ifCond .eq 22, 81, 100, []),
  (81, .aload_n 0, 82, 0, []),
  (82, .getfield 25, 85, 12, []),
  (85, .iload_n 2, 86, 2, []),
  (86, .iconst 1, 87, 0, [(1, 0)]),
  (87, .iload_n 3, 88, 3, []),
  (88, .ishl, 89, 0, []),
  (89, .ior, 90, 0, []),
  (90, .dup2, 91, 0, []),
  (91, .iaload, 92, 0, []),
  (92, .aload_n 0, 93, 0, []),
  (93, .getfield 25, 96, 12, []),
  (96, .iload_n 2, 97, 2, []),
  (97, .iaload, 98, 0, []),
  (98, .iadd, 99, 0, []),
  (99, .iastore, 100, 0, []),
  (100, .iinc 3 1, 103, 3, [(1, 0)]),
  (103, .goto (-41), 106, 62, []),
  (106, .iinc 2 1, 109, 2, [(1, 0)]),
  (109, .goto (-54), 112, 55, []),
  (112, .iload_n 1, 113, 1, []),
  (113, .istore_n 2, 114, 2, []),
  (114, .iload_n 2, 115, 2, []),
  (115, .ifCond .lt 55, 118, 170, []),
  (118, .iconst 0, 119, 0, [(0, 0)]),
  (119, .istore_n 3, 120, 3, []),
  (120, .iload_n 3, 121, 3, []),
  (121, .aload_n 0, 122, 0, []),
  (122, .getfield 7, 125, 0, []),
  (125, .iconst 0, 126, 0, [(0, 0)]),
  (126, .iaload, 127, 0, []),
  (127, .if_icmp .ge 37, 130, 164, []),
  (130, .aload_n 0, 131, 0, []),
  (131, .iload_n 3, 132, 3, []),
  (132, .iload_n 2, 133, 2, []),
  (133, .invokevirtual 214, 136, 0, []),
  (136, .ifCond .eq 22, 139, 158, []),
  (139, .aload_n 0, 140, 0, []),
  (140, .getfield 28, 143, 13, []),
  (143, .iload_n 2, 144, 2, []),
  (144, .dup2, 145, 0, []),
  (145, .iaload, 146, 0, []),
  (146, .aload_n 0, 147, 0, []),
  (147, .getfield 28, 150, 13, []),
  (150, .iload_n 2, 151, 2, []),
  (151, .iconst 1, 152, 0, [(1, 0)]),
  (152, .iload_n 3, 153, 3, []),
  (153, .ishl, 154, 0, []),
  (154, .ior, 155, 0, []),
  (155, .iaload, 156, 0, []),
  (156, .iadd, 157, 0, []),
  (157, .iastore, 158, 0, []),
  (158, .iinc 3 1, 161, 3, [(1, 0)]),
  (161, .goto (-41), 164, 120, []),
  (164, .iinc 2 (-1), 167, 2, [((-1), 0)]),
  (167, .goto (-53), 170, 114, []),
  (170, .return_, 171, 0, [])]
def m_Model_countWays : MI := (⟨"HandOverHorseModel", "countWays", "()V"⟩, prog_14_method_51_code, 4, none, p_Model_countWays, 12)
def p_Model_orders : List PE := [(0, .aload_n 0, 1, 0, []),
  (1, .invokevirtual 218, 4, 0, []),
  (4, .aload_n 0, 5, 0, []),
  (5, .getfield 25, 8, 12, []),
  (8, .aload_n 0, 9, 0, []),
  (9, .invokevirtual 211, 12, 0, []),
  (12, .iaload, 13, 0, []),
  (13, .ireturn, 14, 0, [])]
def m_Model_orders : MI := (⟨"HandOverHorseModel", "orders", "()I"⟩, prog_14_method_52_code, 1, (some .int), p_Model_orders, 12)
def p_Model_sure : List PE := [(0, .aload_n 0, 1, 0, []),
  (1, .iload_n 1, 2, 1, []),
  (2, .invokevirtual 165, 5, 0, []),
  (5, .ifCond .eq 16, 8, 21, []),
  (8, .aload_n 0, 9, 0, []),
  (9, .iload_n 2, 10, 2, []),
  (10, .invokevirtual 165, 13, 0, []),
  (13, .ifCond .eq 8, 16, 21, []),
  (16, .iload_n 1, 17, 1, []),
  (17, .iload_n 2, 18, 2, []),
  (18, .if_icmp .ne 9, 21, 27, []),
  (21, .aload_n 0, 22, 0, []),
  (22, .iconst 1, 23, 0, [(1, 0)]),
  (23, .invokevirtual 129, 26, 0, []),
  (26, .ireturn, 27, 0, []),
  (27, .aload_n 0, 28, 0, []),
  (28, .invokevirtual 218, 31, 0, []),
  (31, .aload_n 0, 32, 0, []),
  (32, .getfield 25, 35, 12, []),
  (35, .aload_n 0, 36, 0, []),
  (36, .invokevirtual 211, 39, 0, []),
  (39, .iaload, 40, 0, []),
  (40, .istore_n 3, 41, 3, []),
  (41, .iconst 0, 42, 0, [(0, 0)]),
  (42, .istore 4, 44, 4, []),
  (44, .iconst 0, 45, 0, [(0, 0)]),
  (45, .istore 5, 47, 5, []),
  (47, .iload 5, 49, 5, []),
  (49, .aload_n 0, 50, 0, []),
  (50, .invokevirtual 211, 53, 0, []),
  (53, .if_icmp .gt 57, 56, 110, []),
  (56, .iload 4, 58, 4, []),
  (58, .iload 5, 60, 5, []),
  (60, .iload_n 2, 61, 2, []),
  (61, .ishr, 62, 0, []),
  (62, .iconst 1, 63, 0, [(1, 0)]),
  (63, .iand, 64, 0, []),
  (64, .iconst 1, 65, 0, [(1, 0)]),
  (65, .if_icmp .ne 35, 68, 100, []),
  (68, .aload_n 0, 69, 0, []),
  (69, .iload_n 1, 70, 1, []),
  (70, .iload 5, 72, 5, []),
  (72, .invokevirtual 214, 75, 0, []),
  (75, .ifCond .eq 25, 78, 100, []),
  (78, .aload_n 0, 79, 0, []),
  (79, .getfield 25, 82, 12, []),
  (82, .iload 5, 84, 5, []),
  (84, .iaload, 85, 0, []),
  (85, .aload_n 0, 86, 0, []),
  (86, .getfield 28, 89, 13, []),
  (89, .iload 5, 91, 5, []),
  (91, .iconst 1, 92, 0, [(1, 0)]),
  (92, .iload_n 1, 93, 1, []),
  (93, .ishl, 94, 0, []),
  (94, .ior, 95, 0, []),
  (95, .iaload, 96, 0, []),
  (96, .imul, 97, 0, []),
  (97, .goto 4, 100, 101, []),
  (100, .iconst 0, 101, 0, [(0, 0)]),
  (101, .iadd, 102, 0, []),
  (102, .istore 4, 104, 4, []),
  (104, .iinc 5 1, 107, 5, [(1, 0)]),
  (107, .goto (-60), 110, 47, []),
  (110, .iload_n 3, 111, 3, []),
  (111, .ifCond .ne 7, 114, 118, []),
  (114, .iconst 0, 115, 0, [(0, 0)]),
  (115, .goto 23, 118, 138, []),
  (118, .iload 4, 120, 4, []),
  (120, .iload_n 3, 121, 3, []),
  (121, .if_icmp .ne 7, 124, 128, []),
  (124, .iconst 1, 125, 0, [(1, 0)]),
  (125, .goto 13, 128, 138, []),
  (128, .iload 4, 130, 4, []),
  (130, .ifCond .ne 7, 133, 137, []),
  (133, .iconst (-1), 134, 0, [((-1), 0)]),
  (134, .goto 4, 137, 138, []),
  (137, .iconst 0, 138, 0, [(0, 0)]),
  (138, .ireturn, 139, 0, [])]
def m_Model_sure : MI := (⟨"HandOverHorseModel", "sure", "(II)I"⟩, prog_14_method_53_code, 6, (some .int), p_Model_sure, 12)
def p_Model_costs : List PE := [(0, .iconst 0, 1, 0, [(0, 0)]),
  (1, .istore_n 3, 2, 3, []),
  (2, .iconst 0, 3, 0, [(0, 0)]),
  (3, .istore 4, 5, 4, []),
  (5, .iload 4, 7, 4, []),
  (7, .aload_n 0, 8, 0, []),
  (8, .getfield 7, 11, 0, []),
  (11, .iconst 1, 12, 0, [(1, 0)]),
  (12, .iaload, 13, 0, []),
  (13, .if_icmp .ge 45, 16, 58, []),
  (16, .iload_n 3, 17, 3, []),
  (17, .aload_n 0, 18, 0, []),
  (18, .iload 4, 20, 4, []),
  (20, .invokevirtual 194, 23, 0, []),
  (23, .iload_n 1, 24, 1, []),
  (24, .if_icmp .ne 25, 27, 49, []),
  (27, .iload_n 2, 28, 2, []),
  (28, .aload_n 0, 29, 0, []),
  (29, .iload 4, 31, 4, []),
  (31, .invokevirtual 205, 34, 0, []),
  (34, .ishr, 35, 0, []),
  (35, .iconst 1, 36, 0, [(1, 0)]),
  (36, .iand, 37, 0, []),
  (37, .ifCond .ne 12, 40, 49, []),
  (40, .aload_n 0, 41, 0, []),
  (41, .iload 4, 43, 4, []),
  (43, .invokevirtual 202, 46, 0, []),
  (46, .goto 4, 49, 50, []),
  (49, .iconst 0, 50, 0, [(0, 0)]),
  (50, .iadd, 51, 0, []),
  (51, .istore_n 3, 52, 3, []),
  (52, .iinc 4 1, 55, 4, [(1, 0)]),
  (55, .goto (-50), 58, 5, []),
  (58, .iload_n 3, 59, 3, []),
  (59, .ireturn, 60, 0, [])]
def m_Model_costs : MI := (⟨"HandOverHorseModel", "costs", "(II)I"⟩, prog_14_method_54_code, 5, (some .int), p_Model_costs, 12)
def p_Model_findBest : List PE := [(0, .aload_n 0, 1, 0, []),
  (1, .invokevirtual 211, 4, 0, []),
  (4, .istore_n 1, 5, 1, []),
  (5, .aload_n 0, 6, 0, []),
  (6, .getfield 31, 9, 14, []),
  (9, .iload_n 1, 10, 1, []),
  (10, .iconst 0, 11, 0, [(0, 0)]),
  (11, .iastore, 12, 0, []),
  (12, .iload_n 1, 13, 1, []),
  (13, .iconst 1, 14, 0, [(1, 0)]),
  (14, .isub, 15, 0, []),
  (15, .istore_n 2, 16, 2, []),
  (16, .iload_n 2, 17, 2, []),
  (17, .ifCond .lt 90, 20, 107, []),
  (20, .aload_n 0, 21, 0, []),
  (21, .getfield 31, 24, 14, []),
  (24, .iload_n 2, 25, 2, []),
  (25, .ldc 221, 27, 1578, [(1000000, 0)]),
  (27, .iastore, 28, 0, []),
  (28, .iconst 0, 29, 0, [(0, 0)]),
  (29, .istore_n 3, 30, 3, []),
  (30, .iload_n 3, 31, 3, []),
  (31, .aload_n 0, 32, 0, []),
  (32, .getfield 7, 35, 0, []),
  (35, .iconst 0, 36, 0, [(0, 0)]),
  (36, .iaload, 37, 0, []),
  (37, .if_icmp .ge 64, 40, 101, []),
  (40, .iload_n 2, 41, 2, []),
  (41, .iload_n 3, 42, 3, []),
  (42, .ishr, 43, 0, []),
  (43, .iconst 1, 44, 0, [(1, 0)]),
  (44, .iand, 45, 0, []),
  (45, .ifCond .ne 50, 48, 95, []),
  (48, .aload_n 0, 49, 0, []),
  (49, .iload_n 3, 50, 3, []),
  (50, .iload_n 2, 51, 2, []),
  (51, .invokevirtual 222, 54, 0, []),
  (54, .aload_n 0, 55, 0, []),
  (55, .getfield 31, 58, 14, []),
  (58, .iload_n 2, 59, 2, []),
  (59, .iconst 1, 60, 0, [(1, 0)]),
  (60, .iload_n 3, 61, 3, []),
  (61, .ishl, 62, 0, []),
  (62, .ior, 63, 0, []),
  (63, .iaload, 64, 0, []),
  (64, .iadd, 65, 0, []),
  (65, .istore 4, 67, 4, []),
  (67, .aload_n 0, 68, 0, []),
  (68, .getfield 31, 71, 14, []),
  (71, .iload_n 2, 72, 2, []),
  (72, .iload 4, 74, 4, []),
  (74, .aload_n 0, 75, 0, []),
  (75, .getfield 31, 78, 14, []),
  (78, .iload_n 2, 79, 2, []),
  (79, .iaload, 80, 0, []),
  (80, .if_icmp .ge 8, 83, 88, []),
  (83, .iload 4, 85, 4, []),
  (85, .goto 9, 88, 94, []),
  (88, .aload_n 0, 89, 0, []),
  (89, .getfield 31, 92, 14, []),
  (92, .iload_n 2, 93, 2, []),
  (93, .iaload, 94, 0, []),
  (94, .iastore, 95, 0, []),
  (95, .iinc 3 1, 98, 3, [(1, 0)]),
  (98, .goto (-68), 101, 30, []),
  (101, .iinc 2 (-1), 104, 2, [((-1), 0)]),
  (104, .goto (-88), 107, 16, []),
  (107, .iconst 0, 108, 0, [(0, 0)]),
  (108, .istore_n 2, 109, 2, []),
  (109, .iconst 0, 110, 0, [(0, 0)]),
  (110, .istore_n 3, 111, 3, []),
  (111, .iload_n 3, 112, 3, []),
  (112, .aload_n 0, 113, 0, []),
  (113, .getfield 7, 116, 0, []),
  (116, .iconst 0, 117, 0, [(0, 0)]),
  (117, .iaload, 118, 0, []),
  (118, .if_icmp .ge 71, 121, 189, []),
  (121, .iconst 0, 122, 0, [(0, 0)]),
  (122, .istore 4, 124, 4, []),
  (124, .iload_n 2, 125, 2, []),
  (125, .iload 4, 127, 4, []),
  (127, .ishr, 128, 0, []),
  (128, .iconst 1, 129, 0, [(1, 0)]),
  (129, .iand, 130, 0, []),
  (130, .iconst 1, 131, 0, [(1, 0)]),
  (131, .if_icmp .eq 31, 134, 162, []),
  (134, .aload_n 0, 135, 0, []),
  (135, .iload 4, 137, 4, []),
  (137, .iload_n 2, 138, 2, []),
  (138, .invokevirtual 222, 141, 0, []),
  (141, .aload_n 0, 142, 0, []),
  (142, .getfield 31, 145, 14, []),
  (145, .iload_n 2, 146, 2, []),
  (146, .iconst 1, 147, 0, [(1, 0)]),
  (147, .iload 4, 149, 4, []),
  (149, .ishl, 150, 0, []),
  (150, .ior, 151, 0, []),
  (151, .iaload, 152, 0, []),
  (152, .iadd, 153, 0, []),
  (153, .aload_n 0, 154, 0, []),
  (154, .getfield 31, 157, 14, []),
  (157, .iload_n 2, 158, 2, []),
  (158, .iaload, 159, 0, []),
  (159, .if_icmp .eq 9, 162, 168, []),
  (162, .iinc 4 1, 165, 4, [(1, 0)]),
  (165, .goto (-41), 168, 124, []),
  (168, .aload_n 0, 169, 0, []),
  (169, .getfield 34, 172, 15, []),
  (172, .iload_n 3, 173, 3, []),
  (173, .iload 4, 175, 4, []),
  (175, .iastore, 176, 0, []),
  (176, .iload_n 2, 177, 2, []),
  (177, .iconst 1, 178, 0, [(1, 0)]),
  (178, .iload 4, 180, 4, []),
  (180, .ishl, 181, 0, []),
  (181, .ior, 182, 0, []),
  (182, .istore_n 2, 183, 2, []),
  (183, .iinc 3 1, 186, 3, [(1, 0)]),
  (186, .goto (-75), 189, 111, []),
  (189, .aload_n 0, 190, 0, []),
  (190, .getfield 31, 193, 14, []),
  (193, .iconst 0, 194, 0, [(0, 0)]),
  (194, .iaload, 195, 0, []),
  (195, .ireturn, 196, 0, [])]
def m_Model_findBest : MI := (⟨"HandOverHorseModel", "findBest", "()I"⟩, prog_14_method_55_code, 5, (some .int), p_Model_findBest, 12)
def p_Model_whichWrong : List PE := [(0, .iconst 0, 1, 0, [(0, 0)]),
  (1, .istore_n 1, 2, 1, []),
  (2, .iconst 0, 3, 0, [(0, 0)]),
  (3, .istore_n 2, 4, 2, []),
  (4, .iconst 0, 5, 0, [(0, 0)]),
  (5, .istore_n 3, 6, 3, []),
  (6, .iload_n 3, 7, 3, []),
  (7, .aload_n 0, 8, 0, []),
  (8, .getfield 7, 11, 0, []),
  (11, .iconst 0, 12, 0, [(0, 0)]),
  (12, .iaload, 13, 0, []),
  (13, .if_icmp .ge 79, 16, 92, []),
  (16, .iconst 0, 17, 0, [(0, 0)]),
  (17, .istore 4, 19, 4, []),
  (19, .iload 4, 21, 4, []),
  (21, .aload_n 0, 22, 0, []),
  (22, .getfield 7, 25, 0, []),
  (25, .iconst 1, 26, 0, [(1, 0)]),
  (26, .iaload, 27, 0, []),
  (27, .if_icmp .ge 48, 30, 75, []),
  (30, .iload_n 2, 31, 2, []),
  (31, .aload_n 0, 32, 0, []),
  (32, .iload 4, 34, 4, []),
  (34, .invokevirtual 194, 37, 0, []),
  (37, .aload_n 0, 38, 0, []),
  (38, .getfield 34, 41, 15, []),
  (41, .iload_n 3, 42, 3, []),
  (42, .iaload, 43, 0, []),
  (43, .if_icmp .ne 23, 46, 66, []),
  (46, .iload_n 1, 47, 1, []),
  (47, .aload_n 0, 48, 0, []),
  (48, .iload 4, 50, 4, []),
  (50, .invokevirtual 205, 53, 0, []),
  (53, .ishr, 54, 0, []),
  (54, .iconst 1, 55, 0, [(1, 0)]),
  (55, .iand, 56, 0, []),
  (56, .ifCond .ne 10, 59, 66, []),
  (59, .iconst 1, 60, 0, [(1, 0)]),
  (60, .iload 4, 62, 4, []),
  (62, .ishl, 63, 0, []),
  (63, .goto 4, 66, 67, []),
  (66, .iconst 0, 67, 0, [(0, 0)]),
  (67, .ior, 68, 0, []),
  (68, .istore_n 2, 69, 2, []),
  (69, .iinc 4 1, 72, 4, [(1, 0)]),
  (72, .goto (-53), 75, 19, []),
  (75, .iload_n 1, 76, 1, []),
  (76, .iconst 1, 77, 0, [(1, 0)]),
  (77, .aload_n 0, 78, 0, []),
  (78, .getfield 34, 81, 15, []),
  (81, .iload_n 3, 82, 3, []),
  (82, .iaload, 83, 0, []),
  (83, .ishl, 84, 0, []),
  (84, .ior, 85, 0, []),
  (85, .istore_n 1, 86, 1, []),
  (86, .iinc 3 1, 89, 3, [(1, 0)]),
  (89, .goto (-83), 92, 6, []),
  (92, .iload_n 2, 93, 2, []),
  (93, .ireturn, 94, 0, [])]
def m_Model_whichWrong : MI := (⟨"HandOverHorseModel", "whichWrong", "()I"⟩, prog_14_method_56_code, 5, (some .int), p_Model_whichWrong, 12)
def p_Model_wrong_ : List PE := [(0, .iload_n 1, 1, 1, []),
  (1, .i2l, 2, 0, []),
  (2, .lconst 0, 3, 0, []),
  (3, .lconst 1, 4, 1, []),
  (4, .invokestatic 66, 7, 0, []),
  (7, .ifCond .ne 9, 10, 16, []),
  (10, .aload_n 0, 11, 0, []),
  (11, .iconst 1, 12, 0, [(1, 0)]),
  (12, .invokevirtual 129, 15, 0, []),
  (15, .ireturn, 16, 0, []),
  (16, .aload_n 0, 17, 0, []),
  (17, .invokevirtual 225, 20, 0, []),
  (20, .istore_n 2, 21, 2, []),
  (21, .iload_n 1, 22, 1, []),
  (22, .ifCond .ne 7, 25, 29, []),
  (25, .iload_n 2, 26, 2, []),
  (26, .goto 7, 29, 33, []),
  (29, .aload_n 0, 30, 0, []),
  (30, .invokevirtual 228, 33, 0, []),
  (33, .ireturn, 34, 0, [])]
def m_Model_wrong_ : MI := (⟨"HandOverHorseModel", "wrong", "(I)I"⟩, prog_14_method_57_code, 3, (some .int), p_Model_wrong_, 12)
def p_Model_best : List PE := [(0, .iload_n 1, 1, 1, []),
  (1, .i2l, 2, 0, []),
  (2, .lconst 0, 3, 0, []),
  (3, .aload_n 0, 4, 0, []),
  (4, .getfield 7, 7, 0, []),
  (7, .iconst 0, 8, 0, [(0, 0)]),
  (8, .iaload, 9, 0, []),
  (9, .iconst 1, 10, 0, [(1, 0)]),
  (10, .isub, 11, 0, []),
  (11, .i2l, 12, 0, []),
  (12, .invokestatic 66, 15, 0, []),
  (15, .ifCond .ne 9, 18, 24, []),
  (18, .aload_n 0, 19, 0, []),
  (19, .iconst 1, 20, 0, [(1, 0)]),
  (20, .invokevirtual 129, 23, 0, []),
  (23, .ireturn, 24, 0, []),
  (24, .aload_n 0, 25, 0, []),
  (25, .invokevirtual 225, 28, 0, []),
  (28, .istore_n 2, 29, 2, []),
  (29, .aload_n 0, 30, 0, []),
  (30, .getfield 34, 33, 15, []),
  (33, .iload_n 1, 34, 1, []),
  (34, .iaload, 35, 0, []),
  (35, .ireturn, 36, 0, [])]
def m_Model_best : MI := (⟨"HandOverHorseModel", "best", "(I)I"⟩, prog_14_method_58_code, 3, (some .int), p_Model_best, 12)
def p_Model_findYears : List PE := [(0, .iconst 0, 1, 0, [(0, 0)]),
  (1, .istore_n 1, 2, 1, []),
  (2, .iload_n 1, 3, 1, []),
  (3, .aload_n 0, 4, 0, []),
  (4, .getfield 7, 7, 0, []),
  (7, .iconst 0, 8, 0, [(0, 0)]),
  (8, .iaload, 9, 0, []),
  (9, .if_icmp .ge 31, 12, 40, []),
  (12, .aload_n 0, 13, 0, []),
  (13, .getfield 37, 16, 16, []),
  (16, .iload_n 1, 17, 1, []),
  (17, .aload_n 0, 18, 0, []),
  (18, .iload_n 1, 19, 1, []),
  (19, .invokevirtual 170, 22, 0, []),
  (22, .iastore, 23, 0, []),
  (23, .aload_n 0, 24, 0, []),
  (24, .getfield 40, 27, 17, []),
  (27, .iload_n 1, 28, 1, []),
  (28, .aload_n 0, 29, 0, []),
  (29, .iload_n 1, 30, 1, []),
  (30, .invokevirtual 173, 33, 0, []),
  (33, .iastore, 34, 0, []),
  (34, .iinc 1 1, 37, 1, [(1, 0)]),
  (37, .goto (-35), 40, 2, []),
  (40, .return_, 41, 0, [])]
def m_Model_findYears : MI := (⟨"HandOverHorseModel", "findYears", "()V"⟩, prog_14_method_59_code, 2, none, p_Model_findYears, 12)
def p_Model_pushes : List PE := [(0, .iconst 1, 1, 0, [(1, 0)]),
  (1, .istore_n 1, 2, 1, []),
  (2, .iconst 0, 3, 0, [(0, 0)]),
  (3, .istore_n 2, 4, 2, []),
  (4, .iload_n 2, 5, 2, []),
  (5, .bipush 8, 7, 0, [(8, 0)]),
  (7, .if_icmp .gt 127, 10, 134, []),
  (10, .iload_n 1, 11, 1, []),
  (11, .ifCond .eq 123, 14, 134, []),
  (14, .iconst 0, 15, 0, [(0, 0)]),
  (15, .istore_n 1, 16, 1, []),
  (16, .iconst 0, 17, 0, [(0, 0)]),
  (17, .istore_n 3, 18, 3, []),
  (18, .iload_n 3, 19, 3, []),
  (19, .aload_n 0, 20, 0, []),
  (20, .getfield 7, 23, 0, []),
  (23, .iconst 1, 24, 0, [(1, 0)]),
  (24, .iaload, 25, 0, []),
  (25, .if_icmp .ge 103, 28, 128, []),
  (28, .aload_n 0, 29, 0, []),
  (29, .getfield 37, 32, 16, []),
  (32, .aload_n 0, 33, 0, []),
  (33, .iload_n 3, 34, 3, []),
  (34, .invokevirtual 194, 37, 0, []),
  (37, .iaload, 38, 0, []),
  (38, .aload_n 0, 39, 0, []),
  (39, .getfield 37, 42, 16, []),
  (42, .aload_n 0, 43, 0, []),
  (43, .iload_n 3, 44, 3, []),
  (44, .invokevirtual 205, 47, 0, []),
  (47, .iaload, 48, 0, []),
  (48, .if_icmp .gt 27, 51, 75, []),
  (51, .aload_n 0, 52, 0, []),
  (52, .getfield 37, 55, 16, []),
  (55, .aload_n 0, 56, 0, []),
  (56, .iload_n 3, 57, 3, []),
  (57, .invokevirtual 194, 60, 0, []),
  (60, .aload_n 0, 61, 0, []),
  (61, .getfield 37, 64, 16, []),
  (64, .aload_n 0, 65, 0, []),
  (65, .iload_n 3, 66, 3, []),
  (66, .invokevirtual 205, 69, 0, []),
  (69, .iaload, 70, 0, []),
  (70, .iconst 1, 71, 0, [(1, 0)]),
  (71, .iadd, 72, 0, []),
  (72, .iastore, 73, 0, []),
  (73, .iconst 1, 74, 0, [(1, 0)]),
  (74, .istore_n 1, 75, 1, []),
  (75, .aload_n 0, 76, 0, []),
  (76, .getfield 40, 79, 17, []),
  (79, .aload_n 0, 80, 0, []),
  (80, .iload_n 3, 81, 3, []),
  (81, .invokevirtual 205, 84, 0, []),
  (84, .iaload, 85, 0, []),
  (85, .aload_n 0, 86, 0, []),
  (86, .getfield 40, 89, 17, []),
  (89, .aload_n 0, 90, 0, []),
  (90, .iload_n 3, 91, 3, []),
  (91, .invokevirtual 194, 94, 0, []),
  (94, .iaload, 95, 0, []),
  (95, .if_icmp .lt 27, 98, 122, []),
  (98, .aload_n 0, 99, 0, []),
  (99, .getfield 40, 102, 17, []),
  (102, .aload_n 0, 103, 0, []),
  (103, .iload_n 3, 104, 3, []),
  (104, .invokevirtual 205, 107, 0, []),
  (107, .aload_n 0, 108, 0, []),
  (108, .getfield 40, 111, 17, []),
  (111, .aload_n 0, 112, 0, []),
  (112, .iload_n 3, 113, 3, []),
  (113, .invokevirtual 194, 116, 0, []),
  (116, .iaload, 117, 0, []),
  (117, .iconst 1, 118, 0, [(1, 0)]),
  (118, .isub, 119, 0, []),
  (119, .iastore, 120, 0, []),
  (120, .iconst 1, 121, 0, [(1, 0)]),
  (121, .istore_n 1, 122, 1, []),
  (122, .iinc 3 1, 125, 3, [(1, 0)]),
  (125, .goto (-107), 128, 18, []),
  (128, .iinc 2 1, 131, 2, [(1, 0)]),
  (131, .goto (-127), 134, 4, []),
  (134, .iconst 0, 135, 0, [(0, 0)]),
  (135, .istore_n 2, 136, 2, []),
  (136, .iload_n 2, 137, 2, []),
  (137, .aload_n 0, 138, 0, []),
  (138, .getfield 7, 141, 0, []),
  (141, .iconst 0, 142, 0, [(0, 0)]),
  (142, .iaload, 143, 0, []),
  (143, .if_icmp .ge 26, 146, 169, []),
  (146, .aload_n 0, 147, 0, []),
  (147, .getfield 37, 150, 16, []),
  (150, .iload_n 2, 151, 2, []),
  (151, .iaload, 152, 0, []),
  (152, .aload_n 0, 153, 0, []),
  (153, .getfield 40, 156, 17, []),
  (156, .iload_n 2, 157, 2, []),
  (157, .iaload, 158, 0, []),
  (158, .if_icmp .le 5, 161, 163, []),
  (161, .iconst 0, 162, 0, [(0, 0)]),
  (162, .ireturn, 163, 0, []),
  (163, .iinc 2 1, 166, 2, [(1, 0)]),
  (166, .goto (-30), 169, 136, []),
  (169, .iload_n 1, 170, 1, []),
  (170, .ifCond .ne 7, 173, 177, []),
  (173, .iconst 1, 174, 0, [(1, 0)]),
  (174, .goto 4, 177, 178, []),
  (177, .iconst 0, 178, 0, [(0, 0)]),
  (178, .ireturn, 179, 0, [])]
def m_Model_pushes : MI := (⟨"HandOverHorseModel", "pushes", "()Z"⟩, prog_14_method_60_code, 4, (some .boolean), p_Model_pushes, 12)
def p_Model_span : List PE := [(0, .aload_n 0, 1, 0, []),
  (1, .iload_n 1, 2, 1, []),
  (2, .invokevirtual 165, 5, 0, []),
  (5, .ifCond .eq 13, 8, 18, []),
  (8, .iload_n 2, 9, 2, []),
  (9, .i2l, 10, 0, []),
  (10, .lconst 0, 11, 0, []),
  (11, .lconst 1, 12, 1, []),
  (12, .invokestatic 66, 15, 0, []),
  (15, .ifCond .ne 9, 18, 24, []),
  (18, .aload_n 0, 19, 0, []),
  (19, .iconst 1, 20, 0, [(1, 0)]),
  (20, .invokevirtual 129, 23, 0, []),
  (23, .ireturn, 24, 0, []),
  (24, .aload_n 0, 25, 0, []),
  (25, .invokevirtual 231, 28, 0, []),
  (28, .aload_n 0, 29, 0, []),
  (29, .invokevirtual 234, 32, 0, []),
  (32, .ifCond .ne 11, 35, 43, []),
  (35, .aload_n 0, 36, 0, []),
  (36, .iconst 2, 37, 0, [(2, 0)]),
  (37, .invokevirtual 129, 40, 0, []),
  (40, .goto 22, 43, 62, []),
  (43, .iload_n 2, 44, 2, []),
  (44, .ifCond .ne 12, 47, 56, []),
  (47, .aload_n 0, 48, 0, []),
  (48, .getfield 37, 51, 16, []),
  (51, .iload_n 1, 52, 1, []),
  (52, .iaload, 53, 0, []),
  (53, .goto 9, 56, 62, []),
  (56, .aload_n 0, 57, 0, []),
  (57, .getfield 40, 60, 17, []),
  (60, .iload_n 1, 61, 1, []),
  (61, .iaload, 62, 0, []),
  (62, .ireturn, 63, 0, [])]
def m_Model_span : MI := (⟨"HandOverHorseModel", "span", "(II)I"⟩, prog_14_method_61_code, 3, (some .int), p_Model_span, 12)
def p_Model_widthBy : List PE := [(0, .aload_n 0, 1, 0, []),
  (1, .invokevirtual 231, 4, 0, []),
  (4, .aload_n 0, 5, 0, []),
  (5, .getfield 37, 8, 16, []),
  (8, .iload_n 1, 9, 1, []),
  (9, .iload_n 2, 10, 2, []),
  (10, .iastore, 11, 0, []),
  (11, .aload_n 0, 12, 0, []),
  (12, .getfield 40, 15, 17, []),
  (15, .iload_n 1, 16, 1, []),
  (16, .iload_n 2, 17, 2, []),
  (17, .iastore, 18, 0, []),
  (18, .aload_n 0, 19, 0, []),
  (19, .invokevirtual 234, 22, 0, []),
  (22, .ifCond .ne 5, 25, 27, []),
  (25, .iconst (-1), 26, 0, [((-1), 0)]),
  (26, .ireturn, 27, 0, []),
  (27, .iconst 0, 28, 0, [(0, 0)]),
  (28, .istore_n 3, 29, 3, []),
  (29, .iconst 0, 30, 0, [(0, 0)]),
  (30, .istore 4, 32, 4, []),
  (32, .iload 4, 34, 4, []),
  (34, .aload_n 0, 35, 0, []),
  (35, .getfield 7, 38, 0, []),
  (38, .iconst 0, 39, 0, [(0, 0)]),
  (39, .iaload, 40, 0, []),
  (40, .if_icmp .ge 27, 43, 67, []),
  (43, .iload_n 3, 44, 3, []),
  (44, .aload_n 0, 45, 0, []),
  (45, .getfield 40, 48, 17, []),
  (48, .iload 4, 50, 4, []),
  (50, .iaload, 51, 0, []),
  (51, .aload_n 0, 52, 0, []),
  (52, .getfield 37, 55, 16, []),
  (55, .iload 4, 57, 4, []),
  (57, .iaload, 58, 0, []),
  (58, .isub, 59, 0, []),
  (59, .iadd, 60, 0, []),
  (60, .istore_n 3, 61, 3, []),
  (61, .iinc 4 1, 64, 4, [(1, 0)]),
  (64, .goto (-32), 67, 32, []),
  (67, .iload_n 3, 68, 3, []),
  (68, .ireturn, 69, 0, [])]
def m_Model_widthBy : MI := (⟨"HandOverHorseModel", "widthBy", "(II)I"⟩, prog_14_method_62_code, 5, (some .int), p_Model_widthBy, 12)
def p_Model_test : List PE := [(0, .aload_n 0, 1, 0, []),
  (1, .iload_n 1, 2, 1, []),
  (2, .invokevirtual 165, 5, 0, []),
  (5, .ifCond .eq 15, 8, 20, []),
  (8, .iload_n 2, 9, 2, []),
  (9, .i2l, 10, 0, []),
  (10, .lconst 0, 11, 0, []),
  (11, .ldc2_w 238, 14, 9999, [(0, 1607)]),
  (14, .invokestatic 66, 17, 0, []),
  (17, .ifCond .ne 9, 20, 26, []),
  (20, .aload_n 0, 21, 0, []),
  (21, .iconst 1, 22, 0, [(1, 0)]),
  (22, .invokevirtual 129, 25, 0, []),
  (25, .ireturn, 26, 0, []),
  (26, .aload_n 0, 27, 0, []),
  (27, .iload_n 1, 28, 1, []),
  (28, .iload_n 2, 29, 2, []),
  (29, .invokevirtual 240, 32, 0, []),
  (32, .istore_n 3, 33, 3, []),
  (33, .iload_n 3, 34, 3, []),
  (34, .ifCond .ge 11, 37, 45, []),
  (37, .aload_n 0, 38, 0, []),
  (38, .iconst 2, 39, 0, [(2, 0)]),
  (39, .invokevirtual 129, 42, 0, []),
  (42, .goto 4, 45, 46, []),
  (45, .iload_n 3, 46, 3, []),
  (46, .ireturn, 47, 0, [])]
def m_Model_test : MI := (⟨"HandOverHorseModel", "test", "(II)I"⟩, prog_14_method_63_code, 4, (some .int), p_Model_test, 12)
def p_Model_worstOf : List PE := [(0, .aload_n 0, 1, 0, []),
  (1, .invokevirtual 231, 4, 0, []),
  (4, .aload_n 0, 5, 0, []),
  (5, .invokevirtual 234, 8, 0, []),
  (8, .istore_n 2, 9, 2, []),
  (9, .aload_n 0, 10, 0, []),
  (10, .getfield 37, 13, 16, []),
  (13, .iload_n 1, 14, 1, []),
  (14, .iaload, 15, 0, []),
  (15, .istore_n 3, 16, 3, []),
  (16, .aload_n 0, 17, 0, []),
  (17, .getfield 40, 20, 17, []),
  (20, .iload_n 1, 21, 1, []),
  (21, .iaload, 22, 0, []),
  (22, .istore 4, 24, 4, []),
  (24, .aload_n 0, 25, 0, []),
  (25, .iload_n 1, 26, 1, []),
  (26, .iload_n 3, 27, 3, []),
  (27, .invokevirtual 240, 30, 0, []),
  (30, .istore 5, 32, 5, []),
  (32, .aload_n 0, 33, 0, []),
  (33, .iload_n 1, 34, 1, []),
  (34, .iload_n 3, 35, 3, []),
  (35, .iload 4, 37, 4, []),
  (37, .iadd, 38, 0, []),
  (38, .iconst 2, 39, 0, [(2, 0)]),
  (39, .idiv, 40, 0, []),
  (40, .invokevirtual 240, 43, 0, []),
  (43, .istore 6, 45, 6, []),
  (45, .aload_n 0, 46, 0, []),
  (46, .iload_n 1, 47, 1, []),
  (47, .iload 4, 49, 4, []),
  (49, .invokevirtual 240, 52, 0, []),
  (52, .istore 7, 54, 7, []),
  (54, .iload 5, 56, 5, []),
  (56, .iload 6, 58, 6, []),
  (58, .if_icmp .le 20, 61, 78, []),
  (61, .iload 5, 63, 5, []),
  (63, .iload 7, 65, 7, []),
  (65, .if_icmp .le 8, 68, 73, []),
  (68, .iload 5, 70, 5, []),
  (70, .goto 22, 73, 92, []),
  (73, .iload 7, 75, 7, []),
  (75, .goto 17, 78, 92, []),
  (78, .iload 6, 80, 6, []),
  (80, .iload 7, 82, 7, []),
  (82, .if_icmp .le 8, 85, 90, []),
  (85, .iload 6, 87, 6, []),
  (87, .goto 5, 90, 92, []),
  (90, .iload 7, 92, 7, []),
  (92, .ireturn, 93, 0, [])]
def m_Model_worstOf : MI := (⟨"HandOverHorseModel", "worstOf", "(I)I"⟩, prog_14_method_64_code, 8, (some .int), p_Model_worstOf, 12)
def p_Model_next : List PE := [(0, .iload_n 1, 1, 1, []),
  (1, .i2l, 2, 0, []),
  (2, .lconst 0, 3, 0, []),
  (3, .lconst 1, 4, 1, []),
  (4, .invokestatic 66, 7, 0, []),
  (7, .ifCond .ne 9, 10, 16, []),
  (10, .aload_n 0, 11, 0, []),
  (11, .iconst 1, 12, 0, [(1, 0)]),
  (12, .invokevirtual 129, 15, 0, []),
  (15, .ireturn, 16, 0, []),
  (16, .aload_n 0, 17, 0, []),
  (17, .invokevirtual 231, 20, 0, []),
  (20, .aload_n 0, 21, 0, []),
  (21, .getfield 7, 24, 0, []),
  (24, .iconst 0, 25, 0, [(0, 0)]),
  (25, .iaload, 26, 0, []),
  (26, .ifCond .eq 10, 29, 36, []),
  (29, .aload_n 0, 30, 0, []),
  (30, .invokevirtual 234, 33, 0, []),
  (33, .ifCond .ne 9, 36, 42, []),
  (36, .aload_n 0, 37, 0, []),
  (37, .iconst 2, 38, 0, [(2, 0)]),
  (38, .invokevirtual 129, 41, 0, []),
  (41, .ireturn, 42, 0, []),
  (42, .iconst (-1), 43, 0, [((-1), 0)]),
  (43, .istore_n 2, 44, 2, []),
  (44, .iconst 0, 45, 0, [(0, 0)]),
  (45, .istore_n 3, 46, 3, []),
  (46, .iconst 0, 47, 0, [(0, 0)]),
  (47, .istore 4, 49, 4, []),
  (49, .iload 4, 51, 4, []),
  (51, .aload_n 0, 52, 0, []),
  (52, .getfield 7, 55, 0, []),
  (55, .iconst 0, 56, 0, [(0, 0)]),
  (56, .iaload, 57, 0, []),
  (57, .if_icmp .ge 33, 60, 90, []),
  (60, .aload_n 0, 61, 0, []),
  (61, .iload 4, 63, 4, []),
  (63, .invokevirtual 243, 66, 0, []),
  (66, .istore 5, 68, 5, []),
  (68, .iload_n 2, 69, 2, []),
  (69, .ifCond .lt 9, 72, 78, []),
  (72, .iload 5, 74, 5, []),
  (74, .iload_n 3, 75, 3, []),
  (75, .if_icmp .ge 9, 78, 84, []),
  (78, .iload 4, 80, 4, []),
  (80, .istore_n 2, 81, 2, []),
  (81, .iload 5, 83, 5, []),
  (83, .istore_n 3, 84, 3, []),
  (84, .iinc 4 1, 87, 4, [(1, 0)]),
  (87, .goto (-38), 90, 49, []),
  (90, .iload_n 1, 91, 1, []),
  (91, .ifCond .ne 7, 94, 98, []),
  (94, .iload_n 2, 95, 2, []),
  (95, .goto 4, 98, 99, []),
  (98, .iload_n 3, 99, 3, []),
  (99, .ireturn, 100, 0, [])]
def m_Model_next : MI := (⟨"HandOverHorseModel", "next", "(I)I"⟩, prog_14_method_65_code, 6, (some .int), p_Model_next, 12)
def p_Model_gapOf : List PE := [(0, .aload_n 0, 1, 0, []),
  (1, .iload_n 1, 2, 1, []),
  (2, .iconst 1, 3, 0, [(1, 0)]),
  (3, .invokevirtual 155, 6, 0, []),
  (6, .istore_n 2, 7, 2, []),
  (7, .aload_n 0, 8, 0, []),
  (8, .iload_n 1, 9, 1, []),
  (9, .iconst 0, 10, 0, [(0, 0)]),
  (10, .invokevirtual 155, 13, 0, []),
  (13, .tableswitch 53 1 6 #[39, 53, 45, 47, 45, 49], 52, 66, [(1, 52), (2, 66), (3, 58), (4, 60), (5, 58), (6, 62)]),
  (52, .iconst 1, 53, 0, [(1, 0)]),
  (53, .iload_n 2, 54, 2, []),
  (54, .iconst 3, 55, 0, [(3, 0)]),
  (55, .idiv, 56, 0, []),
  (56, .iadd, 57, 0, []),
  (57, .ireturn, 58, 0, []),
  (58, .iconst 2, 59, 0, [(2, 0)]),
  (59, .ireturn, 60, 0, []),
  (60, .iconst 0, 61, 0, [(0, 0)]),
  (61, .ireturn, 62, 0, []),
  (62, .iconst 2, 63, 0, [(2, 0)]),
  (63, .iload_n 2, 64, 2, []),
  (64, .iadd, 65, 0, []),
  (65, .ireturn, 66, 0, []),
  (66, .iconst 1, 67, 0, [(1, 0)]),
  (67, .ireturn, 68, 0, [])]
def m_Model_gapOf : MI := (⟨"HandOverHorseModel", "gapOf", "(I)I"⟩, prog_14_method_66_code, 3, (some .int), p_Model_gapOf, 12)
def p_Model_farOf : List PE := [(0, .iload_n 0, 1, 0, []),
  (1, .bipush 6, 3, 0, [(6, 0)]),
  (3, .idiv, 4, 0, []),
  (4, .iload_n 1, 5, 1, []),
  (5, .bipush 6, 7, 0, [(6, 0)]),
  (7, .idiv, 8, 0, []),
  (8, .isub, 9, 0, []),
  (9, .invokestatic 246, 12, 0, []),
  (12, .iload_n 0, 13, 0, []),
  (13, .bipush 6, 15, 0, [(6, 0)]),
  (15, .irem, 16, 0, []),
  (16, .iload_n 1, 17, 1, []),
  (17, .bipush 6, 19, 0, [(6, 0)]),
  (19, .irem, 20, 0, []),
  (20, .isub, 21, 0, []),
  (21, .invokestatic 246, 24, 0, []),
  (24, .iadd, 25, 0, []),
  (25, .ireturn, 26, 0, [])]
def m_Model_farOf : MI := (⟨"HandOverHorseModel", "farOf", "(II)I"⟩, prog_14_method_67_code, 2, (some .int), p_Model_farOf, 12)
def p_Model_joined : List PE := [(0, .aload_n 0, 1, 0, []),
  (1, .iload_n 1, 2, 1, []),
  (2, .invokevirtual 176, 5, 0, []),
  (5, .aload_n 0, 6, 0, []),
  (6, .iload_n 2, 7, 2, []),
  (7, .invokevirtual 176, 10, 0, []),
  (10, .if_icmp .ne 57, 13, 67, []),
  (13, .aload_n 0, 14, 0, []),
  (14, .iload_n 1, 15, 1, []),
  (15, .iconst 3, 16, 0, [(3, 0)]),
  (16, .invokevirtual 155, 19, 0, []),
  (19, .aload_n 0, 20, 0, []),
  (20, .iload_n 2, 21, 2, []),
  (21, .iconst 3, 22, 0, [(3, 0)]),
  (22, .invokevirtual 155, 25, 0, []),
  (25, .isub, 26, 0, []),
  (26, .invokestatic 246, 29, 0, []),
  (29, .bipush 9, 31, 0, [(9, 0)]),
  (31, .if_icmp .gt 36, 34, 67, []),
  (34, .aload_n 0, 35, 0, []),
  (35, .iload_n 1, 36, 1, []),
  (36, .iconst 2, 37, 0, [(2, 0)]),
  (37, .invokevirtual 155, 40, 0, []),
  (40, .aload_n 0, 41, 0, []),
  (41, .iload_n 2, 42, 2, []),
  (42, .iconst 2, 43, 0, [(2, 0)]),
  (43, .invokevirtual 155, 46, 0, []),
  (46, .invokestatic 248, 49, 0, []),
  (49, .aload_n 0, 50, 0, []),
  (50, .iload_n 1, 51, 1, []),
  (51, .invokevirtual 251, 54, 0, []),
  (54, .aload_n 0, 55, 0, []),
  (55, .iload_n 2, 56, 2, []),
  (56, .invokevirtual 251, 59, 0, []),
  (59, .iadd, 60, 0, []),
  (60, .if_icmp .gt 7, 63, 67, []),
  (63, .iconst 1, 64, 0, [(1, 0)]),
  (64, .goto 4, 67, 68, []),
  (67, .iconst 0, 68, 0, [(0, 0)]),
  (68, .ireturn, 69, 0, [])]
def m_Model_joined : MI := (⟨"HandOverHorseModel", "joined", "(II)Z"⟩, prog_14_method_68_code, 3, (some .boolean), p_Model_joined, 12)
def p_Model_join : List PE := [(0, .aload_n 0, 1, 0, []),
  (1, .iload_n 1, 2, 1, []),
  (2, .invokevirtual 165, 5, 0, []),
  (5, .ifCond .eq 16, 8, 21, []),
  (8, .aload_n 0, 9, 0, []),
  (9, .iload_n 2, 10, 2, []),
  (10, .invokevirtual 165, 13, 0, []),
  (13, .ifCond .eq 8, 16, 21, []),
  (16, .iload_n 1, 17, 1, []),
  (17, .iload_n 2, 18, 2, []),
  (18, .if_icmp .ne 9, 21, 27, []),
  (21, .aload_n 0, 22, 0, []),
  (22, .iconst 1, 23, 0, [(1, 0)]),
  (23, .invokevirtual 129, 26, 0, []),
  (26, .ireturn, 27, 0, []),
  (27, .aload_n 0, 28, 0, []),
  (28, .iload_n 1, 29, 1, []),
  (29, .iload_n 2, 30, 2, []),
  (30, .invokevirtual 254, 33, 0, []),
  (33, .ifCond .eq 7, 36, 40, []),
  (36, .iconst 1, 37, 0, [(1, 0)]),
  (37, .goto 4, 40, 41, []),
  (40, .iconst 0, 41, 0, [(0, 0)]),
  (41, .ireturn, 42, 0, [])]
def m_Model_join : MI := (⟨"HandOverHorseModel", "join", "(II)I"⟩, prog_14_method_69_code, 3, (some .int), p_Model_join, 12)
def p_Model_isBeast : List PE := [(0, .iconst 0, 1, 0, [(0, 0)]),
  (1, .istore_n 2, 2, 2, []),
  (2, .iload_n 2, 3, 2, []),
  (3, .aload_n 0, 4, 0, []),
  (4, .getfield 7, 7, 0, []),
  (7, .iconst 0, 8, 0, [(0, 0)]),
  (8, .iaload, 9, 0, []),
  (9, .if_icmp .ge 51, 12, 60, []),
  (12, .iconst 0, 13, 0, [(0, 0)]),
  (13, .istore_n 3, 14, 3, []),
  (14, .iload_n 3, 15, 3, []),
  (15, .iload_n 2, 16, 2, []),
  (16, .if_icmp .ge 38, 19, 54, []),
  (19, .iload_n 1, 20, 1, []),
  (20, .iload_n 2, 21, 2, []),
  (21, .ishr, 22, 0, []),
  (22, .iconst 1, 23, 0, [(1, 0)]),
  (23, .iand, 24, 0, []),
  (24, .iconst 1, 25, 0, [(1, 0)]),
  (25, .if_icmp .ne 23, 28, 48, []),
  (28, .iload_n 1, 29, 1, []),
  (29, .iload_n 3, 30, 3, []),
  (30, .ishr, 31, 0, []),
  (31, .iconst 1, 32, 0, [(1, 0)]),
  (32, .iand, 33, 0, []),
  (33, .iconst 1, 34, 0, [(1, 0)]),
  (34, .if_icmp .ne 14, 37, 48, []),
  (37, .aload_n 0, 38, 0, []),
  (38, .iload_n 2, 39, 2, []),
  (39, .iload_n 3, 40, 3, []),
  (40, .invokevirtual 254, 43, 0, []),
  (43, .ifCond .ne 5, 46, 48, []),
  (46, .iconst 0, 47, 0, [(0, 0)]),
  (47, .ireturn, 48, 0, []),
  (48, .iinc 3 1, 51, 3, [(1, 0)]),
  (51, .goto (-37), 54, 14, []),
  (54, .iinc 2 1, 57, 2, [(1, 0)]),
  (57, .goto (-55), 60, 2, []),
  (60, .iconst 1, 61, 0, [(1, 0)]),
  (61, .ireturn, 62, 0, [])]
def m_Model_isBeast : MI := (⟨"HandOverHorseModel", "isBeast", "(I)Z"⟩, prog_14_method_70_code, 4, (some .boolean), p_Model_isBeast, 12)
def p_Model_joinings : List PE := [(0, .iload_n 1, 1, 1, []),
  (1, .i2l, 2, 0, []),
  (2, .lconst 0, 3, 0, []),
  (3, .lconst 1, 4, 1, []),
  (4, .invokestatic 66, 7, 0, []),
  (7, .ifCond .ne 9, 10, 16, []),
  (10, .aload_n 0, 11, 0, []),
  (11, .iconst 1, 12, 0, [(1, 0)]),
  (12, .invokevirtual 129, 15, 0, []),
  (15, .ireturn, 16, 0, []),
  (16, .aload_n 0, 17, 0, []),
  (17, .getfield 47, 20, 19, []),
  (20, .iconst 0, 21, 0, [(0, 0)]),
  (21, .iconst 1, 22, 0, [(1, 0)]),
  (22, .iastore, 23, 0, []),
  (23, .aload_n 0, 24, 0, []),
  (24, .getfield 31, 27, 14, []),
  (27, .iconst 0, 28, 0, [(0, 0)]),
  (28, .iconst 0, 29, 0, [(0, 0)]),
  (29, .iastore, 30, 0, []),
  (30, .iconst 1, 31, 0, [(1, 0)]),
  (31, .istore_n 2, 32, 2, []),
  (32, .iload_n 2, 33, 2, []),
  (33, .aload_n 0, 34, 0, []),
  (34, .invokevirtual 211, 37, 0, []),
  (37, .if_icmp .gt 146, 40, 183, []),
  (40, .aload_n 0, 41, 0, []),
  (41, .getfield 43, 44, 18, []),
  (44, .iload_n 2, 45, 2, []),
  (45, .aload_n 0, 46, 0, []),
  (46, .iload_n 2, 47, 2, []),
  (47, .invokevirtual 257, 50, 0, []),
  (50, .bastore, 51, 0, []),
  (51, .aload_n 0, 52, 0, []),
  (52, .getfield 47, 55, 19, []),
  (55, .iload_n 2, 56, 2, []),
  (56, .iconst 0, 57, 0, [(0, 0)]),
  (57, .iastore, 58, 0, []),
  (58, .aload_n 0, 59, 0, []),
  (59, .getfield 31, 62, 14, []),
  (62, .iload_n 2, 63, 2, []),
  (63, .ldc 221, 65, 1578, [(1000000, 0)]),
  (65, .iastore, 66, 0, []),
  (66, .iload_n 2, 67, 2, []),
  (67, .iload_n 2, 68, 2, []),
  (68, .ineg, 69, 0, []),
  (69, .iand, 70, 0, []),
  (70, .istore_n 3, 71, 3, []),
  (71, .iload_n 2, 72, 2, []),
  (72, .istore 4, 74, 4, []),
  (74, .iload 4, 76, 4, []),
  (76, .ifCond .le 101, 79, 177, []),
  (79, .iload 4, 81, 4, []),
  (81, .iload_n 3, 82, 3, []),
  (82, .iand, 83, 0, []),
  (83, .ifCond .eq 83, 86, 166, []),
  (86, .aload_n 0, 87, 0, []),
  (87, .getfield 43, 90, 18, []),
  (90, .iload 4, 92, 4, []),
  (92, .baload, 93, 0, []),
  (93, .ifCond .eq 73, 96, 166, []),
  (96, .aload_n 0, 97, 0, []),
  (97, .getfield 47, 100, 19, []),
  (100, .iload_n 2, 101, 2, []),
  (101, .dup2, 102, 0, []),
  (102, .iaload, 103, 0, []),
  (103, .aload_n 0, 104, 0, []),
  (104, .getfield 47, 107, 19, []),
  (107, .iload_n 2, 108, 2, []),
  (108, .iload 4, 110, 4, []),
  (110, .iconst (-1), 111, 0, [((-1), 0)]),
  (111, .ixor, 112, 0, []),
  (112, .iand, 113, 0, []),
  (113, .iaload, 114, 0, []),
  (114, .iadd, 115, 0, []),
  (115, .iastore, 116, 0, []),
  (116, .aload_n 0, 117, 0, []),
  (117, .getfield 31, 120, 14, []),
  (120, .iload_n 2, 121, 2, []),
  (121, .aload_n 0, 122, 0, []),
  (122, .getfield 31, 125, 14, []),
  (125, .iload_n 2, 126, 2, []),
  (126, .iload 4, 128, 4, []),
  (128, .iconst (-1), 129, 0, [((-1), 0)]),
  (129, .ixor, 130, 0, []),
  (130, .iand, 131, 0, []),
  (131, .iaload, 132, 0, []),
  (132, .iconst 1, 133, 0, [(1, 0)]),
  (133, .iadd, 134, 0, []),
  (134, .aload_n 0, 135, 0, []),
  (135, .getfield 31, 138, 14, []),
  (138, .iload_n 2, 139, 2, []),
  (139, .iaload, 140, 0, []),
  (140, .if_icmp .ge 19, 143, 159, []),
  (143, .aload_n 0, 144, 0, []),
  (144, .getfield 31, 147, 14, []),
  (147, .iload_n 2, 148, 2, []),
  (148, .iload 4, 150, 4, []),
  (150, .iconst (-1), 151, 0, [((-1), 0)]),
  (151, .ixor, 152, 0, []),
  (152, .iand, 153, 0, []),
  (153, .iaload, 154, 0, []),
  (154, .iconst 1, 155, 0, [(1, 0)]),
  (155, .iadd, 156, 0, []),
  (156, .goto 9, 159, 165, []),
  (159, .aload_n 0, 160, 0, []),
  (160, .getfield 31, 163, 14, []),
  (163, .iload_n 2, 164, 2, []),
  (164, .iaload, 165, 0, []),
  (165, .iastore, 166, 0, []),
  (166, .iload 4, 168, 4, []),
  (168, .iconst 1, 169, 0, [(1, 0)]),
  (169, .isub, 170, 0, []),
  (170, .iload_n 2, 171, 2, []),
  (171, .iand, 172, 0, []),
  (172, .istore 4, 174, 4, []),
  (174, .goto (-100), 177, 74, []),
  (177, .iinc 2 1, 180, 2, [(1, 0)]),
  (180, .goto (-148), 183, 32, []),
  (183, .iload_n 1, 184, 1, []),
  (184, .ifCond .ne 15, 187, 199, []),
  (187, .aload_n 0, 188, 0, []),
  (188, .getfield 47, 191, 19, []),
  (191, .aload_n 0, 192, 0, []),
  (192, .invokevirtual 211, 195, 0, []),
  (195, .iaload, 196, 0, []),
  (196, .goto 12, 199, 208, []),
  (199, .aload_n 0, 200, 0, []),
  (200, .getfield 31, 203, 14, []),
  (203, .aload_n 0, 204, 0, []),
  (204, .invokevirtual 211, 207, 0, []),
  (207, .iaload, 208, 0, []),
  (208, .ireturn, 209, 0, [])]
def m_Model_joinings : MI := (⟨"HandOverHorseModel", "joinings", "(I)I"⟩, prog_14_method_71_code, 5, (some .int), p_Model_joinings, 12)
def p_Model_mayCome : List PE := [(0, .iconst (-1), 1, 0, [((-1), 0)]),
  (1, .istore_n 3, 2, 3, []),
  (2, .iconst 0, 3, 0, [(0, 0)]),
  (3, .istore 4, 5, 4, []),
  (5, .iload 4, 7, 4, []),
  (7, .aload_n 0, 8, 0, []),
  (8, .getfield 7, 11, 0, []),
  (11, .iconst 0, 12, 0, [(0, 0)]),
  (12, .iaload, 13, 0, []),
  (13, .if_icmp .ge 52, 16, 65, []),
  (16, .iload_n 1, 17, 1, []),
  (17, .iload 4, 19, 4, []),
  (19, .ishr, 20, 0, []),
  (20, .iconst 1, 21, 0, [(1, 0)]),
  (21, .iand, 22, 0, []),
  (22, .iconst 1, 23, 0, [(1, 0)]),
  (23, .if_icmp .ne 36, 26, 59, []),
  (26, .aload_n 0, 27, 0, []),
  (27, .iload 4, 29, 4, []),
  (29, .iload_n 2, 30, 2, []),
  (30, .invokevirtual 214, 33, 0, []),
  (33, .ifCond .eq 17, 36, 50, []),
  (36, .iload_n 3, 37, 3, []),
  (37, .ifCond .lt 15, 40, 52, []),
  (40, .iload_n 3, 41, 3, []),
  (41, .aload_n 0, 42, 0, []),
  (42, .iload 4, 44, 4, []),
  (44, .invokevirtual 176, 47, 0, []),
  (47, .if_icmp .eq 5, 50, 52, []),
  (50, .iconst 0, 51, 0, [(0, 0)]),
  (51, .ireturn, 52, 0, []),
  (52, .aload_n 0, 53, 0, []),
  (53, .iload 4, 55, 4, []),
  (55, .invokevirtual 176, 58, 0, []),
  (58, .istore_n 3, 59, 3, []),
  (59, .iinc 4 1, 62, 4, [(1, 0)]),
  (62, .goto (-57), 65, 5, []),
  (65, .iconst 1, 66, 0, [(1, 0)]),
  (66, .ireturn, 67, 0, [])]
def m_Model_mayCome : MI := (⟨"HandOverHorseModel", "mayCome", "(II)Z"⟩, prog_14_method_72_code, 5, (some .boolean), p_Model_mayCome, 12)
def p_Model_times : List PE := [(0, .iload_n 1, 1, 1, []),
  (1, .i2l, 2, 0, []),
  (2, .lconst 0, 3, 0, []),
  (3, .lconst 1, 4, 1, []),
  (4, .invokestatic 66, 7, 0, []),
  (7, .ifCond .ne 9, 10, 16, []),
  (10, .aload_n 0, 11, 0, []),
  (11, .iconst 1, 12, 0, [(1, 0)]),
  (12, .invokevirtual 129, 15, 0, []),
  (15, .ireturn, 16, 0, []),
  (16, .aload_n 0, 17, 0, []),
  (17, .invokevirtual 208, 20, 0, []),
  (20, .aload_n 0, 21, 0, []),
  (21, .invokevirtual 211, 24, 0, []),
  (24, .istore_n 2, 25, 2, []),
  (25, .aload_n 0, 26, 0, []),
  (26, .getfield 31, 29, 14, []),
  (29, .iload_n 2, 30, 2, []),
  (30, .iconst 0, 31, 0, [(0, 0)]),
  (31, .iastore, 32, 0, []),
  (32, .iload_n 2, 33, 2, []),
  (33, .iconst 1, 34, 0, [(1, 0)]),
  (34, .isub, 35, 0, []),
  (35, .istore_n 3, 36, 3, []),
  (36, .iload_n 3, 37, 3, []),
  (37, .ifCond .lt 101, 40, 138, []),
  (40, .aload_n 0, 41, 0, []),
  (41, .getfield 31, 44, 14, []),
  (44, .iload_n 3, 45, 3, []),
  (45, .ldc 221, 47, 1578, [(1000000, 0)]),
  (47, .iastore, 48, 0, []),
  (48, .iload_n 2, 49, 2, []),
  (49, .iload_n 3, 50, 3, []),
  (50, .iconst (-1), 51, 0, [((-1), 0)]),
  (51, .ixor, 52, 0, []),
  (52, .iand, 53, 0, []),
  (53, .istore 4, 55, 4, []),
  (55, .iload 4, 57, 4, []),
  (57, .istore 5, 59, 5, []),
  (59, .iload 5, 61, 5, []),
  (61, .ifCond .le 71, 64, 132, []),
  (64, .aload_n 0, 65, 0, []),
  (65, .iload 5, 67, 5, []),
  (67, .iload_n 3, 68, 3, []),
  (68, .invokevirtual 260, 71, 0, []),
  (71, .ifCond .eq 49, 74, 120, []),
  (74, .aload_n 0, 75, 0, []),
  (75, .getfield 31, 78, 14, []),
  (78, .iload_n 3, 79, 3, []),
  (79, .aload_n 0, 80, 0, []),
  (80, .getfield 31, 83, 14, []),
  (83, .iload_n 3, 84, 3, []),
  (84, .iload 5, 86, 5, []),
  (86, .ior, 87, 0, []),
  (87, .iaload, 88, 0, []),
  (88, .iconst 1, 89, 0, [(1, 0)]),
  (89, .iadd, 90, 0, []),
  (90, .aload_n 0, 91, 0, []),
  (91, .getfield 31, 94, 14, []),
  (94, .iload_n 3, 95, 3, []),
  (95, .iaload, 96, 0, []),
  (96, .if_icmp .ge 17, 99, 113, []),
  (99, .aload_n 0, 100, 0, []),
  (100, .getfield 31, 103, 14, []),
  (103, .iload_n 3, 104, 3, []),
  (104, .iload 5, 106, 5, []),
  (106, .ior, 107, 0, []),
  (107, .iaload, 108, 0, []),
  (108, .iconst 1, 109, 0, [(1, 0)]),
  (109, .iadd, 110, 0, []),
  (110, .goto 9, 113, 119, []),
  (113, .aload_n 0, 114, 0, []),
  (114, .getfield 31, 117, 14, []),
  (117, .iload_n 3, 118, 3, []),
  (118, .iaload, 119, 0, []),
  (119, .iastore, 120, 0, []),
  (120, .iload 5, 122, 5, []),
  (122, .iconst 1, 123, 0, [(1, 0)]),
  (123, .isub, 124, 0, []),
  (124, .iload 4, 126, 4, []),
  (126, .iand, 127, 0, []),
  (127, .istore 5, 129, 5, []),
  (129, .goto (-70), 132, 59, []),
  (132, .iinc 3 (-1), 135, 3, [((-1), 0)]),
  (135, .goto (-99), 138, 36, []),
  (138, .aload_n 0, 139, 0, []),
  (139, .getfield 31, 142, 14, []),
  (142, .iconst 0, 143, 0, [(0, 0)]),
  (143, .iaload, 144, 0, []),
  (144, .ldc 221, 146, 1578, [(1000000, 0)]),
  (146, .if_icmp .lt 9, 149, 155, []),
  (149, .aload_n 0, 150, 0, []),
  (150, .iconst 2, 151, 0, [(2, 0)]),
  (151, .invokevirtual 129, 154, 0, []),
  (154, .ireturn, 155, 0, []),
  (155, .iload_n 2, 156, 2, []),
  (156, .ifCond .ne 7, 159, 163, []),
  (159, .iconst 0, 160, 0, [(0, 0)]),
  (160, .goto 4, 163, 164, []),
  (163, .iconst 1, 164, 0, [(1, 0)]),
  (164, .istore_n 3, 165, 3, []),
  (165, .iload_n 3, 166, 3, []),
  (166, .ifCond .le 35, 169, 201, []),
  (169, .aload_n 0, 170, 0, []),
  (170, .iload_n 3, 171, 3, []),
  (171, .iconst 0, 172, 0, [(0, 0)]),
  (172, .invokevirtual 260, 175, 0, []),
  (175, .ifCond .eq 20, 178, 195, []),
  (178, .aload_n 0, 179, 0, []),
  (179, .getfield 31, 182, 14, []),
  (182, .iload_n 3, 183, 3, []),
  (183, .iaload, 184, 0, []),
  (184, .iconst 1, 185, 0, [(1, 0)]),
  (185, .iadd, 186, 0, []),
  (186, .aload_n 0, 187, 0, []),
  (187, .getfield 31, 190, 14, []),
  (190, .iconst 0, 191, 0, [(0, 0)]),
  (191, .iaload, 192, 0, []),
  (192, .if_icmp .eq 9, 195, 201, []),
  (195, .iinc 3 1, 198, 3, [(1, 0)]),
  (198, .goto (-33), 201, 165, []),
  (201, .iload_n 1, 202, 1, []),
  (202, .ifCond .ne 12, 205, 214, []),
  (205, .aload_n 0, 206, 0, []),
  (206, .getfield 31, 209, 14, []),
  (209, .iconst 0, 210, 0, [(0, 0)]),
  (210, .iaload, 211, 0, []),
  (211, .goto 4, 214, 215, []),
  (214, .iload_n 3, 215, 3, []),
  (215, .ireturn, 216, 0, [])]
def m_Model_times : MI := (⟨"HandOverHorseModel", "times", "(I)I"⟩, prog_14_method_73_code, 6, (some .int), p_Model_times, 12)
def p_Model_lamp : List PE := [(0, .iload_n 1, 1, 1, []),
  (1, .i2l, 2, 0, []),
  (2, .lconst 0, 3, 0, []),
  (3, .ldc2_w 147, 6, 35, [(0, 1448)]),
  (6, .invokestatic 66, 9, 0, []),
  (9, .ifCond .eq 15, 12, 24, []),
  (12, .iload_n 2, 13, 2, []),
  (13, .i2l, 14, 0, []),
  (14, .lconst 0, 15, 0, []),
  (15, .ldc2_w 263, 18, 10, [(0, 1658)]),
  (18, .invokestatic 66, 21, 0, []),
  (21, .ifCond .ne 9, 24, 30, []),
  (24, .aload_n 0, 25, 0, []),
  (25, .iconst 1, 26, 0, [(1, 0)]),
  (26, .invokevirtual 129, 29, 0, []),
  (29, .ireturn, 30, 0, []),
  (30, .iconst 0, 31, 0, [(0, 0)]),
  (31, .istore_n 3, 32, 3, []),
  (32, .iconst 0, 33, 0, [(0, 0)]),
  (33, .istore 4, 35, 4, []),
  (35, .iload 4, 37, 4, []),
  (37, .aload_n 0, 38, 0, []),
  (38, .getfield 7, 41, 0, []),
  (41, .iconst 0, 42, 0, [(0, 0)]),
  (42, .iaload, 43, 0, []),
  (43, .if_icmp .ge 35, 46, 78, []),
  (46, .iload_n 3, 47, 3, []),
  (47, .aload_n 0, 48, 0, []),
  (48, .iload 4, 50, 4, []),
  (50, .iconst 2, 51, 0, [(2, 0)]),
  (51, .invokevirtual 155, 54, 0, []),
  (54, .iload_n 1, 55, 1, []),
  (55, .invokestatic 248, 58, 0, []),
  (58, .iload_n 2, 59, 2, []),
  (59, .if_icmp .gt 10, 62, 69, []),
  (62, .iconst 1, 63, 0, [(1, 0)]),
  (63, .iload 4, 65, 4, []),
  (65, .ishl, 66, 0, []),
  (66, .goto 4, 69, 70, []),
  (69, .iconst 0, 70, 0, [(0, 0)]),
  (70, .ior, 71, 0, []),
  (71, .istore_n 3, 72, 3, []),
  (72, .iinc 4 1, 75, 4, [(1, 0)]),
  (75, .goto (-40), 78, 35, []),
  (78, .iload_n 3, 79, 3, []),
  (79, .ireturn, 80, 0, [])]
def m_Model_lamp : MI := (⟨"HandOverHorseModel", "lamp", "(II)I"⟩, prog_14_method_74_code, 5, (some .int), p_Model_lamp, 12)
def p_Model_isHand : List PE := [(0, .iload_n 2, 1, 2, []),
  (1, .istore_n 3, 2, 3, []),
  (2, .iload_n 2, 3, 2, []),
  (3, .istore 4, 5, 4, []),
  (5, .bipush 99, 7, 0, [(99, 0)]),
  (7, .istore 5, 9, 5, []),
  (9, .iconst 0, 10, 0, [(0, 0)]),
  (10, .istore 6, 12, 6, []),
  (12, .iconst 0, 13, 0, [(0, 0)]),
  (13, .istore 7, 15, 7, []),
  (15, .iload 7, 17, 7, []),
  (17, .aload_n 0, 18, 0, []),
  (18, .getfield 7, 21, 0, []),
  (21, .iconst 0, 22, 0, [(0, 0)]),
  (22, .iaload, 23, 0, []),
  (23, .if_icmp .ge 60, 26, 83, []),
  (26, .iload_n 1, 27, 1, []),
  (27, .iload 7, 29, 7, []),
  (29, .ishr, 30, 0, []),
  (30, .iconst 1, 31, 0, [(1, 0)]),
  (31, .iand, 32, 0, []),
  (32, .iconst 1, 33, 0, [(1, 0)]),
  (33, .if_icmp .ne 44, 36, 77, []),
  (36, .aload_n 0, 37, 0, []),
  (37, .iload 7, 39, 7, []),
  (39, .iconst 3, 40, 0, [(3, 0)]),
  (40, .invokevirtual 155, 43, 0, []),
  (43, .istore 8, 45, 8, []),
  (45, .iload 8, 47, 8, []),
  (47, .iload 5, 49, 5, []),
  (49, .if_icmp .ge 8, 52, 57, []),
  (52, .iload 8, 54, 8, []),
  (54, .goto 5, 57, 59, []),
  (57, .iload 5, 59, 5, []),
  (59, .istore 5, 61, 5, []),
  (61, .iload 8, 63, 8, []),
  (63, .iload 6, 65, 6, []),
  (65, .if_icmp .le 8, 68, 73, []),
  (68, .iload 8, 70, 8, []),
  (70, .goto 5, 73, 75, []),
  (73, .iload 6, 75, 6, []),
  (75, .istore 6, 77, 6, []),
  (77, .iinc 7 1, 80, 7, [(1, 0)]),
  (80, .goto (-65), 83, 15, []),
  (83, .iload_n 1, 84, 1, []),
  (84, .ifCond .eq 32, 87, 116, []),
  (87, .iload 6, 89, 6, []),
  (89, .iload 5, 91, 5, []),
  (91, .isub, 92, 0, []),
  (92, .bipush 9, 94, 0, [(9, 0)]),
  (94, .if_icmp .gt 26, 97, 120, []),
  (97, .iload 6, 99, 6, []),
  (99, .iload_n 3, 100, 3, []),
  (100, .isub, 101, 0, []),
  (101, .bipush 9, 103, 0, [(9, 0)]),
  (103, .if_icmp .gt 17, 106, 120, []),
  (106, .iload 4, 108, 4, []),
  (108, .iload 5, 110, 5, []),
  (110, .isub, 111, 0, []),
  (111, .bipush 9, 113, 0, [(9, 0)]),
  (113, .if_icmp .gt 7, 116, 120, []),
  (116, .iconst 1, 117, 0, [(1, 0)]),
  (117, .goto 4, 120, 121, []),
  (120, .iconst 0, 121, 0, [(0, 0)]),
  (121, .ireturn, 122, 0, [])]
def m_Model_isHand : MI := (⟨"HandOverHorseModel", "isHand", "(II)Z"⟩, prog_14_method_75_code, 9, (some .boolean), p_Model_isHand, 12)
def p_Model_ones : List PE := [(0, .iconst 0, 1, 0, [(0, 0)]),
  (1, .istore_n 1, 2, 1, []),
  (2, .iconst 0, 3, 0, [(0, 0)]),
  (3, .istore_n 2, 4, 2, []),
  (4, .iload_n 2, 5, 2, []),
  (5, .bipush 8, 7, 0, [(8, 0)]),
  (7, .if_icmp .ge 17, 10, 24, []),
  (10, .iload_n 1, 11, 1, []),
  (11, .iload_n 0, 12, 0, []),
  (12, .iload_n 2, 13, 2, []),
  (13, .ishr, 14, 0, []),
  (14, .iconst 1, 15, 0, [(1, 0)]),
  (15, .iand, 16, 0, []),
  (16, .iadd, 17, 0, []),
  (17, .istore_n 1, 18, 1, []),
  (18, .iinc 2 1, 21, 2, [(1, 0)]),
  (21, .goto (-17), 24, 4, []),
  (24, .iload_n 1, 25, 1, []),
  (25, .ireturn, 26, 0, [])]
def m_Model_ones : MI := (⟨"HandOverHorseModel", "ones", "(I)I"⟩, prog_14_method_76_code, 3, (some .int), p_Model_ones, 12)
def p_Model_hand : List PE := [(0, .iload_n 1, 1, 1, []),
  (1, .i2l, 2, 0, []),
  (2, .lconst 0, 3, 0, []),
  (3, .ldc2_w 149, 6, 99, [(0, 1449)]),
  (6, .invokestatic 66, 9, 0, []),
  (9, .ifCond .ne 9, 12, 18, []),
  (12, .aload_n 0, 13, 0, []),
  (13, .iconst 1, 14, 0, [(1, 0)]),
  (14, .invokevirtual 129, 17, 0, []),
  (17, .ireturn, 18, 0, []),
  (18, .iconst 0, 19, 0, [(0, 0)]),
  (19, .istore_n 2, 20, 2, []),
  (20, .iconst 1, 21, 0, [(1, 0)]),
  (21, .istore_n 3, 22, 3, []),
  (22, .iload_n 3, 23, 3, []),
  (23, .aload_n 0, 24, 0, []),
  (24, .invokevirtual 211, 27, 0, []),
  (27, .if_icmp .gt 35, 30, 62, []),
  (30, .aload_n 0, 31, 0, []),
  (31, .iload_n 3, 32, 3, []),
  (32, .iload_n 1, 33, 1, []),
  (33, .invokevirtual 265, 36, 0, []),
  (36, .ifCond .eq 18, 39, 54, []),
  (39, .iload_n 3, 40, 3, []),
  (40, .invokestatic 268, 43, 0, []),
  (43, .iload_n 2, 44, 2, []),
  (44, .invokestatic 268, 47, 0, []),
  (47, .if_icmp .le 7, 50, 54, []),
  (50, .iload_n 3, 51, 3, []),
  (51, .goto 4, 54, 55, []),
  (54, .iload_n 2, 55, 2, []),
  (55, .istore_n 2, 56, 2, []),
  (56, .iinc 3 1, 59, 3, [(1, 0)]),
  (59, .goto (-37), 62, 22, []),
  (62, .iload_n 2, 63, 2, []),
  (63, .ireturn, 64, 0, [])]
def m_Model_hand : MI := (⟨"HandOverHorseModel", "hand", "(I)I"⟩, prog_14_method_77_code, 4, (some .int), p_Model_hand, 12)
def p_Model_drawn : List PE := [(0, .aload_n 0, 1, 0, []),
  (1, .getfield 7, 4, 0, []),
  (4, .iconst 2, 5, 0, [(2, 0)]),
  (5, .aload_n 0, 6, 0, []),
  (6, .getfield 7, 9, 0, []),
  (9, .iconst 2, 10, 0, [(2, 0)]),
  (10, .iaload, 11, 0, []),
  (11, .ldc_w 271, 14, 1678, [(1103515245, 0)]),
  (14, .imul, 15, 0, []),
  (15, .sipush 12345, 18, 0, [(12345, 0)]),
  (18, .iadd, 19, 0, []),
  (19, .iastore, 20, 0, []),
  (20, .aload_n 0, 21, 0, []),
  (21, .getfield 7, 24, 0, []),
  (24, .iconst 2, 25, 0, [(2, 0)]),
  (25, .iaload, 26, 0, []),
  (26, .bipush 8, 28, 0, [(8, 0)]),
  (28, .iushr, 29, 0, []),
  (29, .ireturn, 30, 0, [])]
def m_Model_drawn : MI := (⟨"HandOverHorseModel", "drawn", "()I"⟩, prog_14_method_78_code, 1, (some .int), p_Model_drawn, 12)
def p_Model_again : List PE := [(0, .iconst 0, 1, 0, [(0, 0)]),
  (1, .istore_n 1, 2, 1, []),
  (2, .iconst 0, 3, 0, [(0, 0)]),
  (3, .istore_n 2, 4, 2, []),
  (4, .iload_n 2, 5, 2, []),
  (5, .aload_n 0, 6, 0, []),
  (6, .getfield 7, 9, 0, []),
  (9, .iconst 1, 10, 0, [(1, 0)]),
  (10, .iaload, 11, 0, []),
  (11, .if_icmp .ge 71, 14, 82, []),
  (14, .aload_n 0, 15, 0, []),
  (15, .invokevirtual 272, 18, 0, []),
  (18, .bipush 100, 20, 0, [(100, 0)]),
  (20, .irem, 21, 0, []),
  (21, .aload_n 0, 22, 0, []),
  (22, .getfield 7, 25, 0, []),
  (25, .bipush 61, 27, 0, [(61, 0)]),
  (27, .iconst 3, 28, 0, [(3, 0)]),
  (28, .iload_n 2, 29, 2, []),
  (29, .imul, 30, 0, []),
  (30, .iadd, 31, 0, []),
  (31, .iconst 2, 32, 0, [(2, 0)]),
  (32, .iadd, 33, 0, []),
  (33, .iaload, 34, 0, []),
  (34, .if_icmp .lt 42, 37, 76, []),
  (37, .aload_n 0, 38, 0, []),
  (38, .iload_n 2, 39, 2, []),
  (39, .invokevirtual 194, 42, 0, []),
  (42, .istore_n 3, 43, 3, []),
  (43, .aload_n 0, 44, 0, []),
  (44, .getfield 7, 47, 0, []),
  (47, .bipush 61, 49, 0, [(61, 0)]),
  (49, .iconst 3, 50, 0, [(3, 0)]),
  (50, .iload_n 2, 51, 2, []),
  (51, .imul, 52, 0, []),
  (52, .iadd, 53, 0, []),
  (53, .aload_n 0, 54, 0, []),
  (54, .iload_n 2, 55, 2, []),
  (55, .invokevirtual 205, 58, 0, []),
  (58, .iastore, 59, 0, []),
  (59, .aload_n 0, 60, 0, []),
  (60, .getfield 7, 63, 0, []),
  (63, .bipush 61, 65, 0, [(61, 0)]),
  (65, .iconst 3, 66, 0, [(3, 0)]),
  (66, .iload_n 2, 67, 2, []),
  (67, .imul, 68, 0, []),
  (68, .iadd, 69, 0, []),
  (69, .iconst 1, 70, 0, [(1, 0)]),
  (70, .iadd, 71, 0, []),
  (71, .iload_n 3, 72, 3, []),
  (72, .iastore, 73, 0, []),
  (73, .iinc 1 1, 76, 1, [(1, 0)]),
  (76, .iinc 2 1, 79, 2, [(1, 0)]),
  (79, .goto (-75), 82, 4, []),
  (82, .iload_n 1, 83, 1, []),
  (83, .ireturn, 84, 0, [])]
def m_Model_again : MI := (⟨"HandOverHorseModel", "again", "()I"⟩, prog_14_method_79_code, 4, (some .int), p_Model_again, 12)
def p_Model_seed : List PE := [(0, .aload_n 0, 1, 0, []),
  (1, .getfield 7, 4, 0, []),
  (4, .iconst 2, 5, 0, [(2, 0)]),
  (5, .iaload, 6, 0, []),
  (6, .istore_n 2, 7, 2, []),
  (7, .aload_n 0, 8, 0, []),
  (8, .getfield 7, 11, 0, []),
  (11, .iconst 2, 12, 0, [(2, 0)]),
  (12, .iload_n 1, 13, 1, []),
  (13, .iastore, 14, 0, []),
  (14, .iload_n 2, 15, 2, []),
  (15, .ireturn, 16, 0, [])]
def m_Model_seed : MI := (⟨"HandOverHorseModel", "seed", "(I)I"⟩, prog_14_method_80_code, 3, (some .int), p_Model_seed, 12)
def p_Model_ran : List PE := [(0, .aload_n 0, 1, 0, []),
  (1, .getfield 275, 4, 21, []),
  (4, .bipush 40, 6, 0, [(40, 0)]),
  (6, .if_icmp .ge 23, 9, 29, []),
  (9, .aload_n 0, 10, 0, []),
  (10, .getfield 50, 13, 20, []),
  (13, .aload_n 0, 14, 0, []),
  (14, .getfield 275, 17, 21, []),
  (17, .iload_n 1, 18, 1, []),
  (18, .iastore, 19, 0, []),
  (19, .aload_n 0, 20, 0, []),
  (20, .dup, 21, 0, []),
  (21, .getfield 275, 24, 21, []),
  (24, .iconst 1, 25, 0, [(1, 0)]),
  (25, .iadd, 26, 0, []),
  (26, .putfield 275, 29, 21, []),
  (29, .return_, 30, 0, [])]
def m_Model_ran : MI := (⟨"HandOverHorseModel", "ran", "(I)V"⟩, prog_14_method_81_code, 2, none, p_Model_ran, 12)
def p_Model_own : List PE := [(0, .aload_n 0, 1, 0, []),
  (1, .aload_n 0, 2, 0, []),
  (2, .getfield 278, 5, 22, []),
  (5, .iconst 0, 6, 0, [(0, 0)]),
  (6, .invokevirtual 155, 9, 0, []),
  (9, .ireturn, 10, 0, [])]
def m_Model_own : MI := (⟨"HandOverHorseModel", "own", "()I"⟩, prog_14_method_82_code, 1, (some .int), p_Model_own, 12)
def p_Model_draws : List PE := [(0, .iload_n 1, 1, 1, []),
  (1, .lookupswitch 58 #[(0, 27), (2, 40)], 28, 59, [(0, 28), (2, 41)]),
  (28, .aload_n 0, 29, 0, []),
  (29, .bipush 10, 31, 0, [(10, 0)]),
  (31, .invokevirtual 281, 34, 0, []),
  (34, .iload_n 2, 35, 2, []),
  (35, .aload_n 0, 36, 0, []),
  (36, .getfield 278, 39, 22, []),
  (39, .iadd, 40, 0, []),
  (40, .ireturn, 41, 0, []),
  (41, .aload_n 0, 42, 0, []),
  (42, .bipush 30, 44, 0, [(30, 0)]),
  (44, .invokevirtual 281, 47, 0, []),
  (47, .aload_n 0, 48, 0, []),
  (48, .iconst 2, 49, 0, [(2, 0)]),
  (49, .invokestatic 184, 52, 0, []),
  (52, .iload_n 2, 53, 2, []),
  (53, .invokevirtual 285, 56, 0, []),
  (56, .iconst 3, 57, 0, [(3, 0)]),
  (57, .imul, 58, 0, []),
  (58, .ireturn, 59, 0, []),
  (59, .aload_n 0, 60, 0, []),
  (60, .iload_n 1, 61, 1, []),
  (61, .invokestatic 184, 64, 0, []),
  (64, .iload_n 2, 65, 2, []),
  (65, .invokevirtual 285, 68, 0, []),
  (68, .ireturn, 69, 0, [])]
def m_Model_draws : MI := (⟨"HandOverHorseModel", "draws", "(II)I"⟩, prog_14_method_83_code, 3, (some .int), p_Model_draws, 12)
def p_Model_dries : List PE := [(0, .iload_n 1, 1, 1, []),
  (1, .tableswitch 99 0 4 #[35, 53, 99, 99, 81], 36, 100, [(0, 36), (1, 54), (2, 100), (3, 100), (4, 82)]),
  (36, .aload_n 0, 37, 0, []),
  (37, .bipush 11, 39, 0, [(11, 0)]),
  (39, .invokevirtual 281, 42, 0, []),
  (42, .aload_n 0, 43, 0, []),
  (43, .aload_n 0, 44, 0, []),
  (44, .invokevirtual 288, 47, 0, []),
  (47, .iload_n 2, 48, 2, []),
  (48, .invokevirtual 285, 51, 0, []),
  (51, .iconst 2, 52, 0, [(2, 0)]),
  (52, .imul, 53, 0, []),
  (53, .ireturn, 54, 0, []),
  (54, .aload_n 0, 55, 0, []),
  (55, .bipush 20, 57, 0, [(20, 0)]),
  (57, .invokevirtual 281, 60, 0, []),
  (60, .aload_n 0, 61, 0, []),
  (61, .iconst 1, 62, 0, [(1, 0)]),
  (62, .invokestatic 184, 65, 0, []),
  (65, .iload_n 2, 66, 2, []),
  (66, .invokevirtual 291, 69, 0, []),
  (69, .istore_n 3, 70, 3, []),
  (70, .iload_n 3, 71, 3, []),
  (71, .aload_n 0, 72, 0, []),
  (72, .aload_n 0, 73, 0, []),
  (73, .invokevirtual 288, 76, 0, []),
  (76, .iconst 1, 77, 0, [(1, 0)]),
  (77, .invokevirtual 294, 80, 0, []),
  (80, .isub, 81, 0, []),
  (81, .ireturn, 82, 0, []),
  (82, .aload_n 0, 83, 0, []),
  (83, .bipush 50, 85, 0, [(50, 0)]),
  (85, .invokevirtual 281, 88, 0, []),
  (88, .aload_n 0, 89, 0, []),
  (89, .iconst 4, 90, 0, [(4, 0)]),
  (90, .invokestatic 184, 93, 0, []),
  (93, .iload_n 2, 94, 2, []),
  (94, .iconst 1, 95, 0, [(1, 0)]),
  (95, .iadd, 96, 0, []),
  (96, .invokevirtual 291, 99, 0, []),
  (99, .ireturn, 100, 0, []),
  (100, .aload_n 0, 101, 0, []),
  (101, .iload_n 1, 102, 1, []),
  (102, .invokestatic 184, 105, 0, []),
  (105, .iload_n 2, 106, 2, []),
  (106, .invokevirtual 291, 109, 0, []),
  (109, .ireturn, 110, 0, [])]
def m_Model_dries : MI := (⟨"HandOverHorseModel", "dries", "(II)I"⟩, prog_14_method_84_code, 4, (some .int), p_Model_dries, 12)
def p_Model_peels : List PE := [(0, .iload_n 1, 1, 1, []),
  (1, .lookupswitch 92 #[(0, 35), (3, 53), (6, 70)], 36, 93, [(0, 36), (3, 54), (6, 71)]),
  (36, .aload_n 0, 37, 0, []),
  (37, .bipush 12, 39, 0, [(12, 0)]),
  (39, .invokevirtual 281, 42, 0, []),
  (42, .iload_n 2, 43, 2, []),
  (43, .aload_n 0, 44, 0, []),
  (44, .aload_n 0, 45, 0, []),
  (45, .getfield 278, 48, 22, []),
  (48, .iconst 1, 49, 0, [(1, 0)]),
  (49, .invokevirtual 155, 52, 0, []),
  (52, .isub, 53, 0, []),
  (53, .ireturn, 54, 0, []),
  (54, .aload_n 0, 55, 0, []),
  (55, .bipush 40, 57, 0, [(40, 0)]),
  (57, .invokevirtual 281, 60, 0, []),
  (60, .aload_n 0, 61, 0, []),
  (61, .iconst 3, 62, 0, [(3, 0)]),
  (62, .invokestatic 184, 65, 0, []),
  (65, .iload_n 2, 66, 2, []),
  (66, .invokevirtual 294, 69, 0, []),
  (69, .ineg, 70, 0, []),
  (70, .ireturn, 71, 0, []),
  (71, .aload_n 0, 72, 0, []),
  (72, .bipush 70, 74, 0, [(70, 0)]),
  (74, .invokevirtual 281, 77, 0, []),
  (77, .aload_n 0, 78, 0, []),
  (78, .bipush 6, 80, 0, [(6, 0)]),
  (80, .invokestatic 184, 83, 0, []),
  (83, .iload_n 2, 84, 2, []),
  (84, .invokevirtual 294, 87, 0, []),
  (87, .aload_n 0, 88, 0, []),
  (88, .getfield 278, 91, 22, []),
  (91, .ixor, 92, 0, []),
  (92, .ireturn, 93, 0, []),
  (93, .aload_n 0, 94, 0, []),
  (94, .iload_n 1, 95, 1, []),
  (95, .invokestatic 184, 98, 0, []),
  (98, .iload_n 2, 99, 2, []),
  (99, .invokevirtual 294, 102, 0, []),
  (102, .ireturn, 103, 0, [])]
def m_Model_peels : MI := (⟨"HandOverHorseModel", "peels", "(II)I"⟩, prog_14_method_85_code, 3, (some .int), p_Model_peels, 12)
def p_Model_tells : List PE := [(0, .iload_n 1, 1, 1, []),
  (1, .lookupswitch 120 #[(0, 35), (5, 63), (6, 91)], 36, 121, [(0, 36), (5, 64), (6, 92)]),
  (36, .aload_n 0, 37, 0, []),
  (37, .bipush 13, 39, 0, [(13, 0)]),
  (39, .invokevirtual 281, 42, 0, []),
  (42, .aload_n 0, 43, 0, []),
  (43, .aload_n 0, 44, 0, []),
  (44, .invokevirtual 288, 47, 0, []),
  (47, .iload_n 2, 48, 2, []),
  (48, .invokevirtual 291, 51, 0, []),
  (51, .istore_n 3, 52, 3, []),
  (52, .iload_n 3, 53, 3, []),
  (53, .aload_n 0, 54, 0, []),
  (54, .aload_n 0, 55, 0, []),
  (55, .invokevirtual 288, 58, 0, []),
  (58, .iload_n 2, 59, 2, []),
  (59, .invokevirtual 294, 62, 0, []),
  (62, .ixor, 63, 0, []),
  (63, .ireturn, 64, 0, []),
  (64, .aload_n 0, 65, 0, []),
  (65, .bipush 60, 67, 0, [(60, 0)]),
  (67, .invokevirtual 281, 70, 0, []),
  (70, .aload_n 0, 71, 0, []),
  (71, .iconst 5, 72, 0, [(5, 0)]),
  (72, .invokestatic 184, 75, 0, []),
  (75, .iload_n 2, 76, 2, []),
  (76, .invokevirtual 297, 79, 0, []),
  (79, .istore_n 3, 80, 3, []),
  (80, .iload_n 3, 81, 3, []),
  (81, .aload_n 0, 82, 0, []),
  (82, .aload_n 0, 83, 0, []),
  (83, .invokevirtual 288, 86, 0, []),
  (86, .iconst 2, 87, 0, [(2, 0)]),
  (87, .invokevirtual 285, 90, 0, []),
  (90, .isub, 91, 0, []),
  (91, .ireturn, 92, 0, []),
  (92, .aload_n 0, 93, 0, []),
  (93, .bipush 71, 95, 0, [(71, 0)]),
  (95, .invokevirtual 281, 98, 0, []),
  (98, .aload_n 0, 99, 0, []),
  (99, .aload_n 0, 100, 0, []),
  (100, .invokevirtual 288, 103, 0, []),
  (103, .iload_n 2, 104, 2, []),
  (104, .invokevirtual 291, 107, 0, []),
  (107, .istore_n 3, 108, 3, []),
  (108, .iload_n 3, 109, 3, []),
  (109, .aload_n 0, 110, 0, []),
  (110, .bipush 6, 112, 0, [(6, 0)]),
  (112, .invokestatic 184, 115, 0, []),
  (115, .iload_n 2, 116, 2, []),
  (116, .invokevirtual 297, 119, 0, []),
  (119, .isub, 120, 0, []),
  (120, .ireturn, 121, 0, []),
  (121, .aload_n 0, 122, 0, []),
  (122, .iload_n 1, 123, 1, []),
  (123, .invokestatic 184, 126, 0, []),
  (126, .iload_n 2, 127, 2, []),
  (127, .invokevirtual 297, 130, 0, []),
  (130, .ireturn, 131, 0, [])]
def m_Model_tells : MI := (⟨"HandOverHorseModel", "tells", "(II)I"⟩, prog_14_method_86_code, 4, (some .int), p_Model_tells, 12)
def p_Model_voice : List PE := [(0, .aload_n 0, 1, 0, []),
  (1, .iload_n 1, 2, 1, []),
  (2, .invokevirtual 165, 5, 0, []),
  (5, .ifCond .eq 15, 8, 20, []),
  (8, .iload_n 2, 9, 2, []),
  (9, .i2l, 10, 0, []),
  (10, .lconst 0, 11, 0, []),
  (11, .ldc2_w 200, 14, 3, [(0, 1525)]),
  (14, .invokestatic 66, 17, 0, []),
  (17, .ifCond .ne 9, 20, 26, []),
  (20, .aload_n 0, 21, 0, []),
  (21, .iconst 1, 22, 0, [(1, 0)]),
  (22, .invokevirtual 129, 25, 0, []),
  (25, .ireturn, 26, 0, []),
  (26, .aload_n 0, 27, 0, []),
  (27, .iconst 0, 28, 0, [(0, 0)]),
  (28, .putfield 275, 31, 21, []),
  (31, .aload_n 0, 32, 0, []),
  (32, .iload_n 1, 33, 1, []),
  (33, .putfield 278, 36, 22, []),
  (36, .aload_n 0, 37, 0, []),
  (37, .invokevirtual 288, 40, 0, []),
  (40, .istore 4, 42, 4, []),
  (42, .iload_n 2, 43, 2, []),
  (43, .ifCond .ne 13, 46, 56, []),
  (46, .aload_n 0, 47, 0, []),
  (47, .iload 4, 49, 4, []),
  (49, .iload_n 3, 50, 3, []),
  (50, .invokevirtual 285, 53, 0, []),
  (53, .goto 40, 56, 93, []),
  (56, .iload_n 2, 57, 2, []),
  (57, .iconst 1, 58, 0, [(1, 0)]),
  (58, .if_icmp .ne 13, 61, 71, []),
  (61, .aload_n 0, 62, 0, []),
  (62, .iload 4, 64, 4, []),
  (64, .iload_n 3, 65, 3, []),
  (65, .invokevirtual 291, 68, 0, []),
  (68, .goto 25, 71, 93, []),
  (71, .iload_n 2, 72, 2, []),
  (72, .iconst 2, 73, 0, [(2, 0)]),
  (73, .if_icmp .ne 13, 76, 86, []),
  (76, .aload_n 0, 77, 0, []),
  (77, .iload 4, 79, 4, []),
  (79, .iload_n 3, 80, 3, []),
  (80, .invokevirtual 294, 83, 0, []),
  (83, .goto 10, 86, 93, []),
  (86, .aload_n 0, 87, 0, []),
  (87, .iload 4, 89, 4, []),
  (89, .iload_n 3, 90, 3, []),
  (90, .invokevirtual 297, 93, 0, []),
  (93, .ireturn, 94, 0, [])]
def m_Model_voice : MI := (⟨"HandOverHorseModel", "voice", "(III)I"⟩, prog_14_method_87_code, 5, (some .int), p_Model_voice, 12)
def p_Model_trace : List PE := [(0, .iload_n 1, 1, 1, []),
  (1, .i2l, 2, 0, []),
  (2, .lconst 0, 3, 0, []),
  (3, .aload_n 0, 4, 0, []),
  (4, .getfield 275, 7, 21, []),
  (7, .iconst 1, 8, 0, [(1, 0)]),
  (8, .isub, 9, 0, []),
  (9, .i2l, 10, 0, []),
  (10, .invokestatic 66, 13, 0, []),
  (13, .ifCond .eq 12, 16, 25, []),
  (16, .aload_n 0, 17, 0, []),
  (17, .getfield 50, 20, 20, []),
  (20, .iload_n 1, 21, 1, []),
  (21, .iaload, 22, 0, []),
  (22, .goto 8, 25, 30, []),
  (25, .aload_n 0, 26, 0, []),
  (26, .iconst 2, 27, 0, [(2, 0)]),
  (27, .invokevirtual 129, 30, 0, []),
  (30, .ireturn, 31, 0, [])]
def m_Model_trace : MI := (⟨"HandOverHorseModel", "trace", "(I)I"⟩, prog_14_method_88_code, 2, (some .int), p_Model_trace, 12)
def p_Model_isSheet : List PE := [(0, .iload_n 0, 1, 0, []),
  (1, .i2l, 2, 0, []),
  (2, .lconst 0, 3, 0, []),
  (3, .ldc2_w 200, 6, 3, [(0, 1525)]),
  (6, .invokestatic 66, 9, 0, []),
  (9, .ireturn, 10, 0, [])]
def m_Model_isSheet : MI := (⟨"HandOverHorseModel", "isSheet", "(I)Z"⟩, prog_14_method_89_code, 1, (some .boolean), p_Model_isSheet, 12)
def p_Model_sheet : List PE := [(0, .iload_n 1, 1, 1, []),
  (1, .invokestatic 300, 4, 0, []),
  (4, .ifCond .eq 25, 7, 29, []),
  (7, .iload_n 2, 8, 2, []),
  (8, .ifCond .eq 27, 11, 35, []),
  (11, .iload_n 2, 12, 2, []),
  (12, .bipush 8, 14, 0, [(8, 0)]),
  (14, .if_icmp .eq 21, 17, 35, []),
  (17, .iload_n 2, 18, 2, []),
  (18, .bipush 16, 20, 0, [(16, 0)]),
  (20, .if_icmp .eq 15, 23, 35, []),
  (23, .iload_n 2, 24, 2, []),
  (24, .bipush 32, 26, 0, [(32, 0)]),
  (26, .if_icmp .eq 9, 29, 35, []),
  (29, .aload_n 0, 30, 0, []),
  (30, .iconst 1, 31, 0, [(1, 0)]),
  (31, .invokevirtual 129, 34, 0, []),
  (34, .ireturn, 35, 0, []),
  (35, .iload_n 2, 36, 2, []),
  (36, .ifCond .eq 13, 39, 49, []),
  (39, .iload_n 3, 40, 3, []),
  (40, .ifCond .ge 9, 43, 49, []),
  (43, .aload_n 0, 44, 0, []),
  (44, .iconst 3, 45, 0, [(3, 0)]),
  (45, .invokevirtual 129, 48, 0, []),
  (48, .ireturn, 49, 0, []),
  (49, .iload_n 2, 50, 2, []),
  (50, .ifCond .eq 15, 53, 65, []),
  (53, .iload_n 3, 54, 3, []),
  (54, .bipush 40, 56, 0, [(40, 0)]),
  (56, .if_icmp .le 9, 59, 65, []),
  (59, .aload_n 0, 60, 0, []),
  (60, .iconst 1, 61, 0, [(1, 0)]),
  (61, .invokevirtual 129, 64, 0, []),
  (64, .ireturn, 65, 0, []),
  (65, .aload_n 0, 66, 0, []),
  (66, .getfield 53, 69, 23, []),
  (69, .iload_n 1, 70, 1, []),
  (70, .iload_n 2, 71, 2, []),
  (71, .iastore, 72, 0, []),
  (72, .aload_n 0, 73, 0, []),
  (73, .getfield 56, 76, 24, []),
  (76, .iload_n 1, 77, 1, []),
  (77, .iload_n 2, 78, 2, []),
  (78, .ifCond .ne 7, 81, 85, []),
  (81, .iconst 0, 82, 0, [(0, 0)]),
  (82, .goto 4, 85, 86, []),
  (85, .iload_n 3, 86, 3, []),
  (86, .iastore, 87, 0, []),
  (87, .iconst 0, 88, 0, [(0, 0)]),
  (88, .istore 4, 90, 4, []),
  (90, .iload 4, 92, 4, []),
  (92, .bipush 40, 94, 0, [(40, 0)]),
  (94, .if_icmp .ge 22, 97, 116, []),
  (97, .aload_n 0, 98, 0, []),
  (98, .getfield 59, 101, 25, []),
  (101, .bipush 40, 103, 0, [(40, 0)]),
  (103, .iload_n 1, 104, 1, []),
  (104, .imul, 105, 0, []),
  (105, .iload 4, 107, 4, []),
  (107, .iadd, 108, 0, []),
  (108, .iconst 0, 109, 0, [(0, 0)]),
  (109, .iastore, 110, 0, []),
  (110, .iinc 4 1, 113, 4, [(1, 0)]),
  (113, .goto (-23), 116, 90, []),
  (116, .iconst 1, 117, 0, [(1, 0)]),
  (117, .ireturn, 118, 0, [])]
def m_Model_sheet : MI := (⟨"HandOverHorseModel", "sheet", "(III)I"⟩, prog_14_method_90_code, 5, (some .int), p_Model_sheet, 12)
def p_Model_put : List PE := [(0, .iload_n 1, 1, 1, []),
  (1, .invokestatic 300, 4, 0, []),
  (4, .ifCond .ne 9, 7, 13, []),
  (7, .aload_n 0, 8, 0, []),
  (8, .iconst 1, 9, 0, [(1, 0)]),
  (9, .invokevirtual 129, 12, 0, []),
  (12, .ireturn, 13, 0, []),
  (13, .aload_n 0, 14, 0, []),
  (14, .getfield 53, 17, 23, []),
  (17, .iload_n 1, 18, 1, []),
  (18, .iaload, 19, 0, []),
  (19, .ifCond .ne 9, 22, 28, []),
  (22, .aload_n 0, 23, 0, []),
  (23, .iconst 2, 24, 0, [(2, 0)]),
  (24, .invokevirtual 129, 27, 0, []),
  (27, .ireturn, 28, 0, []),
  (28, .iload_n 2, 29, 2, []),
  (29, .i2l, 30, 0, []),
  (30, .lconst 0, 31, 0, []),
  (31, .aload_n 0, 32, 0, []),
  (32, .getfield 56, 35, 24, []),
  (35, .iload_n 1, 36, 1, []),
  (36, .iaload, 37, 0, []),
  (37, .iconst 1, 38, 0, [(1, 0)]),
  (38, .isub, 39, 0, []),
  (39, .i2l, 40, 0, []),
  (40, .invokestatic 66, 43, 0, []),
  (43, .ifCond .ne 9, 46, 52, []),
  (46, .aload_n 0, 47, 0, []),
  (47, .iconst 1, 48, 0, [(1, 0)]),
  (48, .invokevirtual 129, 51, 0, []),
  (51, .ireturn, 52, 0, []),
  (52, .aload_n 0, 53, 0, []),
  (53, .getfield 59, 56, 25, []),
  (56, .bipush 40, 58, 0, [(40, 0)]),
  (58, .iload_n 1, 59, 1, []),
  (59, .imul, 60, 0, []),
  (60, .iload_n 2, 61, 2, []),
  (61, .iadd, 62, 0, []),
  (62, .aload_n 0, 63, 0, []),
  (63, .getfield 53, 66, 23, []),
  (66, .iload_n 1, 67, 1, []),
  (67, .iaload, 68, 0, []),
  (68, .bipush 8, 70, 0, [(8, 0)]),
  (70, .if_icmp .ne 8, 73, 78, []),
  (73, .iload_n 3, 74, 3, []),
  (74, .i2b, 75, 0, []),
  (75, .goto 20, 78, 95, []),
  (78, .aload_n 0, 79, 0, []),
  (79, .getfield 53, 82, 23, []),
  (82, .iload_n 1, 83, 1, []),
  (83, .iaload, 84, 0, []),
  (84, .bipush 16, 86, 0, [(16, 0)]),
  (86, .if_icmp .ne 8, 89, 94, []),
  (89, .iload_n 3, 90, 3, []),
  (90, .i2s, 91, 0, []),
  (91, .goto 4, 94, 95, []),
  (94, .iload_n 3, 95, 3, []),
  (95, .iastore, 96, 0, []),
  (96, .iconst 1, 97, 0, [(1, 0)]),
  (97, .ireturn, 98, 0, [])]
def m_Model_put : MI := (⟨"HandOverHorseModel", "put", "(III)I"⟩, prog_14_method_91_code, 4, (some .int), p_Model_put, 12)
def p_Model_move : List PE := [(0, .iload_n 1, 1, 1, []),
  (1, .invokestatic 300, 4, 0, []),
  (4, .ifCond .eq 10, 7, 14, []),
  (7, .iload_n 3, 8, 3, []),
  (8, .invokestatic 300, 11, 0, []),
  (11, .ifCond .ne 9, 14, 20, []),
  (14, .aload_n 0, 15, 0, []),
  (15, .iconst 1, 16, 0, [(1, 0)]),
  (16, .invokevirtual 129, 19, 0, []),
  (19, .ireturn, 20, 0, []),
  (20, .aload_n 0, 21, 0, []),
  (21, .getfield 53, 24, 23, []),
  (24, .iload_n 1, 25, 1, []),
  (25, .iaload, 26, 0, []),
  (26, .ifCond .eq 12, 29, 38, []),
  (29, .aload_n 0, 30, 0, []),
  (30, .getfield 53, 33, 23, []),
  (33, .iload_n 3, 34, 3, []),
  (34, .iaload, 35, 0, []),
  (35, .ifCond .ne 9, 38, 44, []),
  (38, .aload_n 0, 39, 0, []),
  (39, .iconst 2, 40, 0, [(2, 0)]),
  (40, .invokevirtual 129, 43, 0, []),
  (43, .ireturn, 44, 0, []),
  (44, .aload_n 0, 45, 0, []),
  (45, .getfield 53, 48, 23, []),
  (48, .iload_n 1, 49, 1, []),
  (49, .iaload, 50, 0, []),
  (50, .aload_n 0, 51, 0, []),
  (51, .getfield 53, 54, 23, []),
  (54, .iload_n 3, 55, 3, []),
  (55, .iaload, 56, 0, []),
  (56, .if_icmp .eq 9, 59, 65, []),
  (59, .aload_n 0, 60, 0, []),
  (60, .iconst 5, 61, 0, [(5, 0)]),
  (61, .invokevirtual 129, 64, 0, []),
  (64, .ireturn, 65, 0, []),
  (65, .iload 5, 67, 5, []),
  (67, .ifCond .lt 39, 70, 106, []),
  (70, .iload_n 2, 71, 2, []),
  (71, .ifCond .lt 35, 74, 106, []),
  (74, .iload 4, 76, 4, []),
  (76, .ifCond .lt 30, 79, 106, []),
  (79, .iload 5, 81, 5, []),
  (81, .aload_n 0, 82, 0, []),
  (82, .getfield 56, 85, 24, []),
  (85, .iload_n 1, 86, 1, []),
  (86, .iaload, 87, 0, []),
  (87, .iload_n 2, 88, 2, []),
  (88, .isub, 89, 0, []),
  (89, .if_icmp .gt 17, 92, 106, []),
  (92, .iload 5, 94, 5, []),
  (94, .aload_n 0, 95, 0, []),
  (95, .getfield 56, 98, 24, []),
  (98, .iload_n 3, 99, 3, []),
  (99, .iaload, 100, 0, []),
  (100, .iload 4, 102, 4, []),
  (102, .isub, 103, 0, []),
  (103, .if_icmp .le 9, 106, 112, []),
  (106, .aload_n 0, 107, 0, []),
  (107, .iconst 1, 108, 0, [(1, 0)]),
  (108, .invokevirtual 129, 111, 0, []),
  (111, .ireturn, 112, 0, []),
  (112, .iconst 0, 113, 0, [(0, 0)]),
  (113, .istore 6, 115, 6, []),
  (115, .iload 6, 117, 6, []),
  (117, .iload 5, 119, 5, []),
  (119, .if_icmp .ge 30, 122, 149, []),
  (122, .aload_n 0, 123, 0, []),
  (123, .getfield 62, 126, 26, []),
  (126, .iload 6, 128, 6, []),
  (128, .aload_n 0, 129, 0, []),
  (129, .getfield 59, 132, 25, []),
  (132, .bipush 40, 134, 0, [(40, 0)]),
  (134, .iload_n 1, 135, 1, []),
  (135, .imul, 136, 0, []),
  (136, .iload_n 2, 137, 2, []),
  (137, .iadd, 138, 0, []),
  (138, .iload 6, 140, 6, []),
  (140, .iadd, 141, 0, []),
  (141, .iaload, 142, 0, []),
  (142, .iastore, 143, 0, []),
  (143, .iinc 6 1, 146, 6, [(1, 0)]),
  (146, .goto (-31), 149, 115, []),
  (149, .iconst 0, 150, 0, [(0, 0)]),
  (150, .istore 6, 152, 6, []),
  (152, .iload 6, 154, 6, []),
  (154, .iload 5, 156, 5, []),
  (156, .if_icmp .ge 31, 159, 187, []),
  (159, .aload_n 0, 160, 0, []),
  (160, .getfield 59, 163, 25, []),
  (163, .bipush 40, 165, 0, [(40, 0)]),
  (165, .iload_n 3, 166, 3, []),
  (166, .imul, 167, 0, []),
  (167, .iload 4, 169, 4, []),
  (169, .iadd, 170, 0, []),
  (170, .iload 6, 172, 6, []),
  (172, .iadd, 173, 0, []),
  (173, .aload_n 0, 174, 0, []),
  (174, .getfield 62, 177, 26, []),
  (177, .iload 6, 179, 6, []),
  (179, .iaload, 180, 0, []),
  (180, .iastore, 181, 0, []),
  (181, .iinc 6 1, 184, 6, [(1, 0)]),
  (184, .goto (-32), 187, 152, []),
  (187, .iload 5, 189, 5, []),
  (189, .ireturn, 190, 0, [])]
def m_Model_move : MI := (⟨"HandOverHorseModel", "move", "(IIIII)I"⟩, prog_14_method_92_code, 7, (some .int), p_Model_move, 12)
def p_Model_whyNot : List PE := [(0, .iload_n 1, 1, 1, []),
  (1, .invokestatic 300, 4, 0, []),
  (4, .ifCond .ne 7, 7, 11, []),
  (7, .iconst 1, 8, 0, [(1, 0)]),
  (8, .goto 17, 11, 25, []),
  (11, .aload_n 0, 12, 0, []),
  (12, .getfield 53, 15, 23, []),
  (15, .iload_n 1, 16, 1, []),
  (16, .iaload, 17, 0, []),
  (17, .ifCond .ne 7, 20, 24, []),
  (20, .iconst 2, 21, 0, [(2, 0)]),
  (21, .goto 4, 24, 25, []),
  (24, .iconst 0, 25, 0, [(0, 0)]),
  (25, .ireturn, 26, 0, [])]
def m_Model_whyNot : MI := (⟨"HandOverHorseModel", "whyNot", "(I)I"⟩, prog_14_method_93_code, 2, (some .int), p_Model_whyNot, 12)
def p_Model_looks : List PE := [(0, .aload_n 0, 1, 0, []),
  (1, .iload_n 1, 2, 1, []),
  (2, .invokevirtual 303, 5, 0, []),
  (5, .istore_n 2, 6, 2, []),
  (6, .iload_n 2, 7, 2, []),
  (7, .ifCond .eq 9, 10, 16, []),
  (10, .aload_n 0, 11, 0, []),
  (11, .iload_n 2, 12, 2, []),
  (12, .invokevirtual 129, 15, 0, []),
  (15, .ireturn, 16, 0, []),
  (16, .iconst 0, 17, 0, [(0, 0)]),
  (17, .istore_n 3, 18, 3, []),
  (18, .bipush 40, 20, 0, [(40, 0)]),
  (20, .iload_n 1, 21, 1, []),
  (21, .imul, 22, 0, []),
  (22, .istore 4, 24, 4, []),
  (24, .iconst 3, 25, 0, [(3, 0)]),
  (25, .iload_n 3, 26, 3, []),
  (26, .imul, 27, 0, []),
  (27, .iconst 3, 28, 0, [(3, 0)]),
  (28, .iadd, 29, 0, []),
  (29, .aload_n 0, 30, 0, []),
  (30, .getfield 56, 33, 24, []),
  (33, .iload_n 1, 34, 1, []),
  (34, .iaload, 35, 0, []),
  (35, .if_icmp .gt 86, 38, 121, []),
  (38, .aload_n 0, 39, 0, []),
  (39, .getfield 7, 42, 0, []),
  (42, .iconst 1, 43, 0, [(1, 0)]),
  (43, .iaload, 44, 0, []),
  (44, .bipush 12, 46, 0, [(12, 0)]),
  (46, .if_icmp .ge 75, 49, 121, []),
  (49, .aload_n 0, 50, 0, []),
  (50, .aload_n 0, 51, 0, []),
  (51, .getfield 59, 54, 25, []),
  (54, .iload 4, 56, 4, []),
  (56, .iaload, 57, 0, []),
  (57, .aload_n 0, 58, 0, []),
  (58, .getfield 59, 61, 25, []),
  (61, .iload 4, 63, 4, []),
  (63, .iconst 1, 64, 0, [(1, 0)]),
  (64, .iadd, 65, 0, []),
  (65, .iaload, 66, 0, []),
  (66, .aload_n 0, 67, 0, []),
  (67, .getfield 59, 70, 25, []),
  (70, .iload 4, 72, 4, []),
  (72, .iconst 2, 73, 0, [(2, 0)]),
  (73, .iadd, 74, 0, []),
  (74, .iaload, 75, 0, []),
  (75, .invokevirtual 187, 78, 0, []),
  (78, .ifCond .eq 43, 81, 121, []),
  (81, .aload_n 0, 82, 0, []),
  (82, .aload_n 0, 83, 0, []),
  (83, .getfield 59, 86, 25, []),
  (86, .iload 4, 88, 4, []),
  (88, .iaload, 89, 0, []),
  (89, .aload_n 0, 90, 0, []),
  (90, .getfield 59, 93, 25, []),
  (93, .iload 4, 95, 4, []),
  (95, .iconst 1, 96, 0, [(1, 0)]),
  (96, .iadd, 97, 0, []),
  (97, .iaload, 98, 0, []),
  (98, .aload_n 0, 99, 0, []),
  (99, .getfield 59, 102, 25, []),
  (102, .iload 4, 104, 4, []),
  (104, .iconst 2, 105, 0, [(2, 0)]),
  (105, .iadd, 106, 0, []),
  (106, .iaload, 107, 0, []),
  (107, .invokevirtual 191, 110, 0, []),
  (110, .istore 5, 112, 5, []),
  (112, .iinc 3 1, 115, 3, [(1, 0)]),
  (115, .iinc 4 3, 118, 4, [(3, 0)]),
  (118, .goto (-94), 121, 24, []),
  (121, .iload_n 3, 122, 3, []),
  (122, .ireturn, 123, 0, [])]
def m_Model_looks : MI := (⟨"HandOverHorseModel", "looks", "(I)I"⟩, prog_14_method_94_code, 6, (some .int), p_Model_looks, 12)
def p_Model_isRight : List PE := [(0, .bipush 40, 2, 0, [(40, 0)]),
  (2, .iload_n 1, 3, 1, []),
  (3, .imul, 4, 0, []),
  (4, .istore_n 3, 5, 3, []),
  (5, .aload_n 0, 6, 0, []),
  (6, .getfield 59, 9, 25, []),
  (9, .iload_n 3, 10, 3, []),
  (10, .iload_n 2, 11, 2, []),
  (11, .iadd, 12, 0, []),
  (12, .iaload, 13, 0, []),
  (13, .i2l, 14, 0, []),
  (14, .aload_n 0, 15, 0, []),
  (15, .iload_n 2, 16, 2, []),
  (16, .invokevirtual 170, 19, 0, []),
  (19, .i2l, 20, 0, []),
  (20, .aload_n 0, 21, 0, []),
  (21, .iload_n 2, 22, 2, []),
  (22, .invokevirtual 173, 25, 0, []),
  (25, .i2l, 26, 0, []),
  (26, .invokestatic 66, 29, 0, []),
  (29, .ifCond .ne 5, 32, 34, []),
  (32, .iconst 0, 33, 0, [(0, 0)]),
  (33, .ireturn, 34, 0, []),
  (34, .iconst 0, 35, 0, [(0, 0)]),
  (35, .istore 4, 37, 4, []),
  (37, .iload 4, 39, 4, []),
  (39, .aload_n 0, 40, 0, []),
  (40, .getfield 7, 43, 0, []),
  (43, .iconst 1, 44, 0, [(1, 0)]),
  (44, .iaload, 45, 0, []),
  (45, .if_icmp .ge 60, 48, 105, []),
  (48, .aload_n 0, 49, 0, []),
  (49, .iload 4, 51, 4, []),
  (51, .invokevirtual 194, 54, 0, []),
  (54, .iload_n 2, 55, 2, []),
  (55, .if_icmp .gt 44, 58, 99, []),
  (58, .aload_n 0, 59, 0, []),
  (59, .iload 4, 61, 4, []),
  (61, .invokevirtual 205, 64, 0, []),
  (64, .iload_n 2, 65, 2, []),
  (65, .if_icmp .gt 34, 68, 99, []),
  (68, .aload_n 0, 69, 0, []),
  (69, .getfield 59, 72, 25, []),
  (72, .iload_n 3, 73, 3, []),
  (73, .aload_n 0, 74, 0, []),
  (74, .iload 4, 76, 4, []),
  (76, .invokevirtual 194, 79, 0, []),
  (79, .iadd, 80, 0, []),
  (80, .iaload, 81, 0, []),
  (81, .aload_n 0, 82, 0, []),
  (82, .getfield 59, 85, 25, []),
  (85, .iload_n 3, 86, 3, []),
  (86, .aload_n 0, 87, 0, []),
  (87, .iload 4, 89, 4, []),
  (89, .invokevirtual 205, 92, 0, []),
  (92, .iadd, 93, 0, []),
  (93, .iaload, 94, 0, []),
  (94, .if_icmp .gt 5, 97, 99, []),
  (97, .iconst 0, 98, 0, [(0, 0)]),
  (98, .ireturn, 99, 0, []),
  (99, .iinc 4 1, 102, 4, [(1, 0)]),
  (102, .goto (-65), 105, 37, []),
  (105, .iconst 1, 106, 0, [(1, 0)]),
  (106, .ireturn, 107, 0, [])]
def m_Model_isRight : MI := (⟨"HandOverHorseModel", "isRight", "(II)Z"⟩, prog_14_method_95_code, 5, (some .boolean), p_Model_isRight, 12)
def p_Model_judge : List PE := [(0, .aload_n 0, 1, 0, []),
  (1, .iload_n 1, 2, 1, []),
  (2, .invokevirtual 303, 5, 0, []),
  (5, .istore_n 2, 6, 2, []),
  (6, .iload_n 2, 7, 2, []),
  (7, .ifCond .eq 9, 10, 16, []),
  (10, .aload_n 0, 11, 0, []),
  (11, .iload_n 2, 12, 2, []),
  (12, .invokevirtual 129, 15, 0, []),
  (15, .ireturn, 16, 0, []),
  (16, .iconst 0, 17, 0, [(0, 0)]),
  (17, .istore_n 3, 18, 3, []),
  (18, .iload_n 3, 19, 3, []),
  (19, .aload_n 0, 20, 0, []),
  (20, .getfield 7, 23, 0, []),
  (23, .iconst 0, 24, 0, [(0, 0)]),
  (24, .iaload, 25, 0, []),
  (25, .if_icmp .ge 28, 28, 53, []),
  (28, .iload_n 3, 29, 3, []),
  (29, .aload_n 0, 30, 0, []),
  (30, .getfield 56, 33, 24, []),
  (33, .iload_n 1, 34, 1, []),
  (34, .iaload, 35, 0, []),
  (35, .if_icmp .ge 18, 38, 53, []),
  (38, .aload_n 0, 39, 0, []),
  (39, .iload_n 1, 40, 1, []),
  (40, .iload_n 3, 41, 3, []),
  (41, .invokevirtual 306, 44, 0, []),
  (44, .ifCond .eq 9, 47, 53, []),
  (47, .iinc 3 1, 50, 3, [(1, 0)]),
  (50, .goto (-32), 53, 18, []),
  (53, .iload_n 3, 54, 3, []),
  (54, .ireturn, 55, 0, [])]
def m_Model_judge : MI := (⟨"HandOverHorseModel", "judge", "(I)I"⟩, prog_14_method_96_code, 4, (some .int), p_Model_judge, 12)
def p_Model_image : List PE := [(0, .aload_n 0, 1, 0, []),
  (1, .getfield 7, 4, 0, []),
  (4, .aload_n 0, 5, 0, []),
  (5, .getfield 13, 8, 1, []),
  (8, .invokestatic 309, 11, 0, []),
  (11, .aload_n 0, 12, 0, []),
  (12, .dup, 13, 0, []),
  (13, .getfield 313, 16, 2, []),
  (16, .iconst 1, 17, 0, [(1, 0)]),
  (17, .iadd, 18, 0, []),
  (18, .putfield 313, 21, 2, []),
  (21, .aload_n 0, 22, 0, []),
  (22, .getfield 313, 25, 2, []),
  (25, .ireturn, 26, 0, [])]
def m_Model_image : MI := (⟨"HandOverHorseModel", "image", "()I"⟩, prog_14_method_97_code, 1, (some .int), p_Model_image, 12)
def p_Model_restore : List PE := [(0, .aload_n 0, 1, 0, []),
  (1, .getfield 313, 4, 2, []),
  (4, .ifCond .ne 9, 7, 13, []),
  (7, .aload_n 0, 8, 0, []),
  (8, .iconst 2, 9, 0, [(2, 0)]),
  (9, .invokevirtual 129, 12, 0, []),
  (12, .ireturn, 13, 0, []),
  (13, .aload_n 0, 14, 0, []),
  (14, .getfield 13, 17, 1, []),
  (17, .aload_n 0, 18, 0, []),
  (18, .getfield 7, 21, 0, []),
  (21, .invokestatic 309, 24, 0, []),
  (24, .aload_n 0, 25, 0, []),
  (25, .getfield 7, 28, 0, []),
  (28, .iconst 0, 29, 0, [(0, 0)]),
  (29, .iaload, 30, 0, []),
  (30, .ireturn, 31, 0, [])]
def m_Model_restore : MI := (⟨"HandOverHorseModel", "restore", "()I"⟩, prog_14_method_98_code, 1, (some .int), p_Model_restore, 12)
def p_Model_tell : List PE := [(0, .aload_n 0, 1, 0, []),
  (1, .getfield 7, 4, 0, []),
  (4, .iconst 4, 5, 0, [(4, 0)]),
  (5, .iaload, 6, 0, []),
  (6, .bipush 20, 8, 0, [(20, 0)]),
  (8, .if_icmp .ne 9, 11, 17, []),
  (11, .aload_n 0, 12, 0, []),
  (12, .iconst 4, 13, 0, [(4, 0)]),
  (13, .invokevirtual 129, 16, 0, []),
  (16, .ireturn, 17, 0, []),
  (17, .aload_n 0, 18, 0, []),
  (18, .getfield 7, 21, 0, []),
  (21, .bipush 99, 23, 0, [(99, 0)]),
  (23, .aload_n 0, 24, 0, []),
  (24, .getfield 7, 27, 0, []),
  (27, .iconst 4, 28, 0, [(4, 0)]),
  (28, .iaload, 29, 0, []),
  (29, .iadd, 30, 0, []),
  (30, .iload_n 1, 31, 1, []),
  (31, .iastore, 32, 0, []),
  (32, .aload_n 0, 33, 0, []),
  (33, .getfield 7, 36, 0, []),
  (36, .iconst 4, 37, 0, [(4, 0)]),
  (37, .dup2, 38, 0, []),
  (38, .iaload, 39, 0, []),
  (39, .iconst 1, 40, 0, [(1, 0)]),
  (40, .iadd, 41, 0, []),
  (41, .iastore, 42, 0, []),
  (42, .aload_n 0, 43, 0, []),
  (43, .getfield 7, 46, 0, []),
  (46, .iconst 4, 47, 0, [(4, 0)]),
  (47, .iaload, 48, 0, []),
  (48, .ireturn, 49, 0, [])]
def m_Model_tell : MI := (⟨"HandOverHorseModel", "tell", "(I)I"⟩, prog_14_method_99_code, 2, (some .int), p_Model_tell, 12)
def p_Model_check : List PE := [(0, .aload_n 0, 1, 0, []),
  (1, .getfield 7, 4, 0, []),
  (4, .iconst 4, 5, 0, [(4, 0)]),
  (5, .iaload, 6, 0, []),
  (6, .istore_n 1, 7, 1, []),
  (7, .aload_n 0, 8, 0, []),
  (8, .getfield 7, 11, 0, []),
  (11, .iconst 4, 12, 0, [(4, 0)]),
  (12, .iconst 0, 13, 0, [(0, 0)]),
  (13, .iastore, 14, 0, []),
  (14, .aload_n 0, 15, 0, []),
  (15, .invokevirtual 208, 18, 0, []),
  (18, .iconst 0, 19, 0, [(0, 0)]),
  (19, .istore_n 2, 20, 2, []),
  (20, .iconst 0, 21, 0, [(0, 0)]),
  (21, .istore_n 3, 22, 3, []),
  (22, .iload_n 3, 23, 3, []),
  (23, .iload_n 1, 24, 1, []),
  (24, .if_icmp .ge 66, 27, 90, []),
  (27, .iload_n 3, 28, 3, []),
  (28, .aload_n 0, 29, 0, []),
  (29, .getfield 7, 32, 0, []),
  (32, .iconst 0, 33, 0, [(0, 0)]),
  (33, .iaload, 34, 0, []),
  (34, .if_icmp .ge 56, 37, 90, []),
  (37, .aload_n 0, 38, 0, []),
  (38, .aload_n 0, 39, 0, []),
  (39, .getfield 7, 42, 0, []),
  (42, .bipush 99, 44, 0, [(99, 0)]),
  (44, .iload_n 3, 45, 3, []),
  (45, .iadd, 46, 0, []),
  (46, .iaload, 47, 0, []),
  (47, .invokevirtual 165, 50, 0, []),
  (50, .ifCond .eq 40, 53, 90, []),
  (53, .aload_n 0, 54, 0, []),
  (54, .aload_n 0, 55, 0, []),
  (55, .getfield 7, 58, 0, []),
  (58, .bipush 99, 60, 0, [(99, 0)]),
  (60, .iload_n 3, 61, 3, []),
  (61, .iadd, 62, 0, []),
  (62, .iaload, 63, 0, []),
  (63, .iload_n 2, 64, 2, []),
  (64, .invokevirtual 214, 67, 0, []),
  (67, .ifCond .eq 23, 70, 90, []),
  (70, .iload_n 2, 71, 2, []),
  (71, .iconst 1, 72, 0, [(1, 0)]),
  (72, .aload_n 0, 73, 0, []),
  (73, .getfield 7, 76, 0, []),
  (76, .bipush 99, 78, 0, [(99, 0)]),
  (78, .iload_n 3, 79, 3, []),
  (79, .iadd, 80, 0, []),
  (80, .iaload, 81, 0, []),
  (81, .ishl, 82, 0, []),
  (82, .ior, 83, 0, []),
  (83, .istore_n 2, 84, 2, []),
  (84, .iinc 3 1, 87, 3, [(1, 0)]),
  (87, .goto (-65), 90, 22, []),
  (90, .iload_n 3, 91, 3, []),
  (91, .iload_n 1, 92, 1, []),
  (92, .if_icmp .ne 17, 95, 109, []),
  (95, .iload_n 3, 96, 3, []),
  (96, .aload_n 0, 97, 0, []),
  (97, .getfield 7, 100, 0, []),
  (100, .iconst 0, 101, 0, [(0, 0)]),
  (101, .iaload, 102, 0, []),
  (102, .if_icmp .ne 7, 105, 109, []),
  (105, .iconst 0, 106, 0, [(0, 0)]),
  (106, .goto 6, 109, 112, []),
  (109, .iconst 1, 110, 0, [(1, 0)]),
  (110, .iload_n 3, 111, 3, []),
  (111, .iadd, 112, 0, []),
  (112, .ireturn, 113, 0, [])]
def m_Model_check : MI := (⟨"HandOverHorseModel", "check", "()I"⟩, prog_14_method_100_code, 4, (some .int), p_Model_check, 12)
def p_Model_count : List PE := [(0, .iload_n 1, 1, 1, []),
  (1, .tableswitch 79 0 5 #[39, 46, 53, 60, 67, 72], 40, 80, [(0, 40), (1, 47), (2, 54), (3, 61), (4, 68), (5, 73)]),
  (40, .aload_n 0, 41, 0, []),
  (41, .getfield 7, 44, 0, []),
  (44, .iconst 0, 45, 0, [(0, 0)]),
  (45, .iaload, 46, 0, []),
  (46, .ireturn, 47, 0, []),
  (47, .aload_n 0, 48, 0, []),
  (48, .getfield 7, 51, 0, []),
  (51, .iconst 1, 52, 0, [(1, 0)]),
  (52, .iaload, 53, 0, []),
  (53, .ireturn, 54, 0, []),
  (54, .aload_n 0, 55, 0, []),
  (55, .getfield 7, 58, 0, []),
  (58, .iconst 3, 59, 0, [(3, 0)]),
  (59, .iaload, 60, 0, []),
  (60, .ireturn, 61, 0, []),
  (61, .aload_n 0, 62, 0, []),
  (62, .getfield 7, 65, 0, []),
  (65, .iconst 4, 66, 0, [(4, 0)]),
  (66, .iaload, 67, 0, []),
  (67, .ireturn, 68, 0, []),
  (68, .aload_n 0, 69, 0, []),
  (69, .getfield 275, 72, 21, []),
  (72, .ireturn, 73, 0, []),
  (73, .aload_n 0, 74, 0, []),
  (74, .getfield 7, 77, 0, []),
  (77, .iconst 2, 78, 0, [(2, 0)]),
  (78, .iaload, 79, 0, []),
  (79, .ireturn, 80, 0, []),
  (80, .aload_n 0, 81, 0, []),
  (81, .iconst 1, 82, 0, [(1, 0)]),
  (82, .invokevirtual 129, 85, 0, []),
  (85, .ireturn, 86, 0, [])]
def m_Model_count : MI := (⟨"HandOverHorseModel", "count", "(I)I"⟩, prog_14_method_101_code, 2, (some .int), p_Model_count, 12)
def p_Model_told : List PE := [(0, .iload_n 1, 1, 1, []),
  (1, .i2l, 2, 0, []),
  (2, .lconst 1, 3, 1, []),
  (3, .ldc2_w 316, 6, 5, [(0, 1773)]),
  (6, .invokestatic 66, 9, 0, []),
  (9, .ifCond .eq 12, 12, 21, []),
  (12, .aload_n 0, 13, 0, []),
  (13, .getfield 16, 16, 3, []),
  (16, .iload_n 1, 17, 1, []),
  (17, .iaload, 18, 0, []),
  (18, .goto 8, 21, 26, []),
  (21, .aload_n 0, 22, 0, []),
  (22, .iconst 1, 23, 0, [(1, 0)]),
  (23, .invokevirtual 129, 26, 0, []),
  (26, .ireturn, 27, 0, [])]
def m_Model_told : MI := (⟨"HandOverHorseModel", "told", "(I)I"⟩, prog_14_method_102_code, 2, (some .int), p_Model_told, 12)
def p_Chr_isValidCodePoint : List PE := [(0, .iload_n 0, 1, 0, []),
  (1, .bipush 16, 3, 0, [(16, 0)]),
  (3, .iushr, 4, 0, []),
  (4, .istore_n 1, 5, 1, []),
  (5, .iload_n 1, 6, 1, []),
  (6, .bipush 17, 8, 0, [(17, 0)]),
  (8, .if_icmp .ge 7, 11, 15, []),
  (11, .iconst 1, 12, 0, [(1, 0)]),
  (12, .goto 4, 15, 16, []),
  (15, .iconst 0, 16, 0, [(0, 0)]),
  (16, .ireturn, 17, 0, [])]
def m_Chr_isValidCodePoint : MI := (⟨"java/lang/Character", "isValidCodePoint", "(I)Z"⟩, prog_15_method_11_code, 2, (some .boolean), p_Chr_isValidCodePoint, 14)
def p_Chr_highSurrogate : List PE := [(0, .iload_n 0, 1, 0, []),
  (1, .bipush 10, 3, 0, [(10, 0)]),
  (3, .iushr, 4, 0, []),
  (4, .ldc 110, 6, 847, [(55232, 0)]),
  (6, .iadd, 7, 0, []),
  (7, .i2c, 8, 0, []),
  (8, .ireturn, 9, 0, [])]
def m_Chr_highSurrogate : MI := (⟨"java/lang/Character", "highSurrogate", "(I)C"⟩, prog_15_method_28_code, 1, (some .char), p_Chr_highSurrogate, 14)
def p_Chr_lowSurrogate : List PE := [(0, .iload_n 0, 1, 0, []),
  (1, .sipush 1023, 4, 0, [(1023, 0)]),
  (4, .iand, 5, 0, []),
  (5, .ldc 76, 7, 851, [(56320, 0)]),
  (7, .iadd, 8, 0, []),
  (8, .i2c, 9, 0, []),
  (9, .ireturn, 10, 0, [])]
def m_Chr_lowSurrogate : MI := (⟨"java/lang/Character", "lowSurrogate", "(I)C"⟩, prog_15_method_29_code, 1, (some .char), p_Chr_lowSurrogate, 14)
def p_Int_bitCount : List PE := [(0, .iload_n 0, 1, 0, []),
  (1, .iload_n 0, 2, 0, []),
  (2, .iconst 1, 3, 0, [(1, 0)]),
  (3, .iushr, 4, 0, []),
  (4, .ldc_w 265, 7, 1039, [(1431655765, 0)]),
  (7, .iand, 8, 0, []),
  (8, .isub, 9, 0, []),
  (9, .istore_n 0, 10, 0, []),
  (10, .iload_n 0, 11, 0, []),
  (11, .ldc_w 266, 14, 1040, [(858993459, 0)]),
  (14, .iand, 15, 0, []),
  (15, .iload_n 0, 16, 0, []),
  (16, .iconst 2, 17, 0, [(2, 0)]),
  (17, .iushr, 18, 0, []),
  (18, .ldc_w 266, 21, 1040, [(858993459, 0)]),
  (21, .iand, 22, 0, []),
  (22, .iadd, 23, 0, []),
  (23, .istore_n 0, 24, 0, []),
  (24, .iload_n 0, 25, 0, []),
  (25, .iload_n 0, 26, 0, []),
  (26, .iconst 4, 27, 0, [(4, 0)]),
  (27, .iushr, 28, 0, []),
  (28, .iadd, 29, 0, []),
  (29, .ldc_w 267, 32, 1041, [(252645135, 0)]),
  (32, .iand, 33, 0, []),
  (33, .istore_n 0, 34, 0, []),
  (34, .iload_n 0, 35, 0, []),
  (35, .iload_n 0, 36, 0, []),
  (36, .bipush 8, 38, 0, [(8, 0)]),
  (38, .iushr, 39, 0, []),
  (39, .iadd, 40, 0, []),
  (40, .istore_n 0, 41, 0, []),
  (41, .iload_n 0, 42, 0, []),
  (42, .iload_n 0, 43, 0, []),
  (43, .bipush 16, 45, 0, [(16, 0)]),
  (45, .iushr, 46, 0, []),
  (46, .iadd, 47, 0, []),
  (47, .istore_n 0, 48, 0, []),
  (48, .iload_n 0, 49, 0, []),
  (49, .bipush 63, 51, 0, [(63, 0)]),
  (51, .iand, 52, 0, []),
  (52, .ireturn, 53, 0, [])]
def m_Int_bitCount : MI := (⟨"java/lang/Integer", "bitCount", "(I)I"⟩, prog_16_method_49_code, 1, (some .int), p_Int_bitCount, 14)
def p_Math_abs : List PE := [(0, .iload_n 0, 1, 0, []),
  (1, .ifCond .ge 8, 4, 9, []),
  (4, .iload_n 0, 5, 0, []),
  (5, .ineg, 6, 0, []),
  (6, .goto 4, 9, 10, []),
  (9, .iload_n 0, 10, 0, []),
  (10, .ireturn, 11, 0, [])]
def m_Math_abs : MI := (⟨"java/lang/Math", "abs", "(I)I"⟩, prog_17_method_59_code, 1, (some .int), p_Math_abs, 14)
def p_Math_max : List PE := [(0, .iload_n 0, 1, 0, []),
  (1, .iload_n 1, 2, 1, []),
  (2, .if_icmp .lt 7, 5, 9, []),
  (5, .iload_n 0, 6, 0, []),
  (6, .goto 4, 9, 10, []),
  (9, .iload_n 1, 10, 1, []),
  (10, .ireturn, 11, 0, [])]
def m_Math_max : MI := (⟨"java/lang/Math", "max", "(II)I"⟩, prog_17_method_65_code, 2, (some .int), p_Math_max, 14)
def p_Math_min : List PE := [(0, .iload_n 0, 1, 0, []),
  (1, .iload_n 1, 2, 1, []),
  (2, .if_icmp .gt 7, 5, 9, []),
  (5, .iload_n 0, 6, 0, []),
  (6, .goto 4, 9, 10, []),
  (9, .iload_n 1, 10, 1, []),
  (10, .ireturn, 11, 0, [])]
def m_Math_min : MI := (⟨"java/lang/Math", "min", "(II)I"⟩, prog_17_method_69_code, 2, (some .int), p_Math_min, 14)
def p_Str_length : List PE := [(0, .aload_n 0, 1, 0, []),
  (1, .getfield 9, 4, 0, []),
  (4, .arraylength, 5, 0, []),
  (5, .aload_n 0, 6, 0, []),
  (6, .invokevirtual 335, 9, 0, []),
  (9, .ishr, 10, 0, []),
  (10, .ireturn, 11, 0, [])]
def m_Str_length : MI := (⟨"java/lang/String", "length", "()I"⟩, prog_18_method_54_code, 1, (some .int), p_Str_length, 14)
def p_Str_indexOf : List PE := [(0, .aload_n 0, 1, 0, []),
  (1, .iload_n 1, 2, 1, []),
  (2, .iconst 0, 3, 0, [(0, 0)]),
  (3, .invokevirtual 633, 6, 0, []),
  (6, .ireturn, 7, 0, [])]
def m_Str_indexOf : MI := (⟨"java/lang/String", "indexOf", "(I)I"⟩, prog_18_method_79_code, 2, (some .int), p_Str_indexOf, 14)
def p_Str_indexOf_ : List PE := [(0, .aload_n 0, 1, 0, []),
  (1, .invokevirtual 492, 4, 0, []),
  (4, .ifCond .eq 19, 7, 23, []),
  (7, .aload_n 0, 8, 0, []),
  (8, .getfield 9, 11, 0, []),
  (11, .iload_n 1, 12, 1, []),
  (12, .iload_n 2, 13, 2, []),
  (13, .aload_n 0, 14, 0, []),
  (14, .invokevirtual 505, 17, 0, []),
  (17, .invokestatic 637, 20, 0, []),
  (20, .goto 16, 23, 36, []),
  (23, .aload_n 0, 24, 0, []),
  (24, .getfield 9, 27, 0, []),
  (27, .iload_n 1, 28, 1, []),
  (28, .iload_n 2, 29, 2, []),
  (29, .aload_n 0, 30, 0, []),
  (30, .invokevirtual 505, 33, 0, []),
  (33, .invokestatic 640, 36, 0, []),
  (36, .ireturn, 37, 0, [])]
def m_Str_indexOf_ : MI := (⟨"java/lang/String", "indexOf", "(II)I"⟩, prog_18_method_80_code, 3, (some .int), p_Str_indexOf_, 14)
def p_Str_coder : List PE := [(0, .getstatic 38, 3, 0, []),
  (3, .ifCond .eq 10, 6, 13, []),
  (6, .aload_n 0, 7, 0, []),
  (7, .getfield 15, 10, 0, []),
  (10, .goto 4, 13, 14, []),
  (13, .iconst 1, 14, 0, [(1, 0)]),
  (14, .ireturn, 15, 0, [])]
def m_Str_coder : MI := (⟨"java/lang/String", "coder", "()B"⟩, prog_18_method_152_code, 1, (some .byte), p_Str_coder, 14)
def p_Str_isLatin1 : List PE := [(0, .getstatic 38, 3, 0, []),
  (3, .ifCond .eq 14, 6, 17, []),
  (6, .aload_n 0, 7, 0, []),
  (7, .getfield 15, 10, 0, []),
  (10, .ifCond .ne 7, 13, 17, []),
  (13, .iconst 1, 14, 0, [(1, 0)]),
  (14, .goto 4, 17, 18, []),
  (17, .iconst 0, 18, 0, [(0, 0)]),
  (18, .ireturn, 19, 0, [])]
def m_Str_isLatin1 : MI := (⟨"java/lang/String", "isLatin1", "()Z"⟩, prog_18_method_154_code, 1, (some .boolean), p_Str_isLatin1, 14)
def p_Str_checkBoundsBeginEnd : List PE := [(0, .iload_n 0, 1, 0, []),
  (1, .iload_n 1, 2, 1, []),
  (2, .iload_n 2, 3, 2, []),
  (3, .getstatic 1053, 6, 0, []),
  (6, .invokestatic 1062, 9, 0, []),
  (9, .pop, 10, 0, []),
  (10, .return_, 11, 0, [])]
def m_Str_checkBoundsBeginEnd : MI := (⟨"java/lang/String", "checkBoundsBeginEnd", "(III)V"⟩, prog_18_method_158_code, 3, none, p_Str_checkBoundsBeginEnd, 14)
def p_Lat_canEncode : List PE := [(0, .iload_n 0, 1, 0, []),
  (1, .ifCond .lt 14, 4, 15, []),
  (4, .iload_n 0, 5, 0, []),
  (5, .sipush 255, 8, 0, [(255, 0)]),
  (8, .if_icmp .gt 7, 11, 15, []),
  (11, .iconst 1, 12, 0, [(1, 0)]),
  (12, .goto 4, 15, 16, []),
  (15, .iconst 0, 16, 0, [(0, 0)]),
  (16, .ireturn, 17, 0, [])]
def m_Lat_canEncode : MI := (⟨"java/lang/StringLatin1", "canEncode", "(I)Z"⟩, prog_19_method_4_code, 1, (some .boolean), p_Lat_canEncode, 14)
def p_Lat_indexOf : List PE := [(0, .iload_n 1, 1, 1, []),
  (1, .invokestatic 88, 4, 0, []),
  (4, .ifCond .ne 5, 7, 9, []),
  (7, .iconst (-1), 8, 0, [((-1), 0)]),
  (8, .ireturn, 9, 0, []),
  (9, .iload_n 2, 10, 2, []),
  (10, .iconst 0, 11, 0, [(0, 0)]),
  (11, .invokestatic 92, 14, 0, []),
  (14, .istore_n 2, 15, 2, []),
  (15, .iload_n 3, 16, 3, []),
  (16, .aload_n 0, 17, 0, []),
  (17, .arraylength, 18, 0, []),
  (18, .invokestatic 38, 21, 0, []),
  (21, .istore_n 3, 22, 3, []),
  (22, .iload_n 2, 23, 2, []),
  (23, .iload_n 3, 24, 3, []),
  (24, .if_icmp .lt 5, 27, 29, []),
  (27, .iconst (-1), 28, 0, [((-1), 0)]),
  (28, .ireturn, 29, 0, []),
  (29, .aload_n 0, 30, 0, []),
  (30, .iload_n 1, 31, 1, []),
  (31, .iload_n 2, 32, 2, []),
  (32, .iload_n 3, 33, 3, []),
  (33, .invokestatic 95, 36, 0, []),
  (36, .ireturn, 37, 0, [])]
def m_Lat_indexOf : MI := (⟨"java/lang/StringLatin1", "indexOf", "([BIII)I"⟩, prog_19_method_22_code, 4, (some .int), p_Lat_indexOf, 14)
def p_Lat_indexOfChar : List PE := [(0, .iload_n 1, 1, 1, []),
  (1, .i2b, 2, 0, []),
  (2, .istore 4, 4, 4, []),
  (4, .iload_n 2, 5, 2, []),
  (5, .istore 5, 7, 5, []),
  (7, .iload 5, 9, 5, []),
  (9, .iload_n 3, 10, 3, []),
  (10, .if_icmp .ge 21, 13, 31, []),
  (13, .aload_n 0, 14, 0, []),
  (14, .iload 5, 16, 5, []),
  (16, .baload, 17, 0, []),
  (17, .iload 4, 19, 4, []),
  (19, .if_icmp .ne 6, 22, 25, []),
  (22, .iload 5, 24, 5, []),
  (24, .ireturn, 25, 0, []),
  (25, .iinc 5 1, 28, 5, [(1, 0)]),
  (28, .goto (-21), 31, 7, []),
  (31, .iconst (-1), 32, 0, [((-1), 0)]),
  (32, .ireturn, 33, 0, [])]
def m_Lat_indexOfChar : MI := (⟨"java/lang/StringLatin1", "indexOfChar", "([BIII)I"⟩, prog_19_method_23_code, 6, (some .int), p_Lat_indexOfChar, 14)
def p_U16_getChar : List PE := [(0, .getstatic 44, 3, 0, []),
  (3, .ifCond .ne 25, 6, 28, []),
  (6, .iload_n 1, 7, 1, []),
  (7, .ifCond .lt 11, 10, 18, []),
  (10, .iload_n 1, 11, 1, []),
  (11, .aload_n 0, 12, 0, []),
  (12, .invokestatic 48, 15, 0, []),
  (15, .if_icmp .lt 13, 18, 28, []),
  (18, .new 52, 21, 0, []),
  (21, .dup, 22, 0, []),
  (22, .ldc 54, 24, 0, []),
  (24, .invokespecial 56, 27, 0, []),
  (27, .athrow, 28, 0, []),
  (28, .iload_n 1, 29, 1, []),
  (29, .iconst 1, 30, 0, [(1, 0)]),
  (30, .ishl, 31, 0, []),
  (31, .istore_n 1, 32, 1, []),
  (32, .aload_n 0, 33, 0, []),
  (33, .iload_n 1, 34, 1, []),
  (34, .iinc 1 1, 37, 1, [(1, 0)]),
  (37, .baload, 38, 0, []),
  (38, .sipush 255, 41, 0, [(255, 0)]),
  (41, .iand, 42, 0, []),
  (42, .getstatic 59, 45, 0, []),
  (45, .ishl, 46, 0, []),
  (46, .aload_n 0, 47, 0, []),
  (47, .iload_n 1, 48, 1, []),
  (48, .baload, 49, 0, []),
  (49, .sipush 255, 52, 0, [(255, 0)]),
  (52, .iand, 53, 0, []),
  (53, .getstatic 63, 56, 0, []),
  (56, .ishl, 57, 0, []),
  (57, .ior, 58, 0, []),
  (58, .i2c, 59, 0, []),
  (59, .ireturn, 60, 0, [])]
def m_U16_getChar : MI := (⟨"java/lang/StringUTF16", "getChar", "([BI)C"⟩, prog_20_method_5_code, 2, (some .char), p_U16_getChar, 14)
def p_U16_length : List PE := [(0, .aload_n 0, 1, 0, []),
  (1, .arraylength, 2, 0, []),
  (2, .iconst 1, 3, 0, [(1, 0)]),
  (3, .ishr, 4, 0, []),
  (4, .ireturn, 5, 0, [])]
def m_U16_length : MI := (⟨"java/lang/StringUTF16", "length", "([B)I"⟩, prog_20_method_6_code, 1, (some .int), p_U16_length, 14)
def p_U16_indexOf : List PE := [(0, .iload_n 2, 1, 2, []),
  (1, .iconst 0, 2, 0, [(0, 0)]),
  (2, .invokestatic 224, 5, 0, []),
  (5, .istore_n 2, 6, 2, []),
  (6, .iload_n 3, 7, 3, []),
  (7, .aload_n 0, 8, 0, []),
  (8, .arraylength, 9, 0, []),
  (9, .iconst 1, 10, 0, [(1, 0)]),
  (10, .ishr, 11, 0, []),
  (11, .invokestatic 183, 14, 0, []),
  (14, .istore_n 3, 15, 3, []),
  (15, .iload_n 2, 16, 2, []),
  (16, .iload_n 3, 17, 3, []),
  (17, .if_icmp .lt 5, 20, 22, []),
  (20, .iconst (-1), 21, 0, [((-1), 0)]),
  (21, .ireturn, 22, 0, []),
  (22, .iload_n 1, 23, 1, []),
  (23, .ldc 227, 25, 808, [(65536, 0)]),
  (25, .if_icmp .ge 11, 28, 36, []),
  (28, .aload_n 0, 29, 0, []),
  (29, .iload_n 1, 30, 1, []),
  (30, .iload_n 2, 31, 2, []),
  (31, .iload_n 3, 32, 3, []),
  (32, .invokestatic 228, 35, 0, []),
  (35, .ireturn, 36, 0, []),
  (36, .aload_n 0, 37, 0, []),
  (37, .iload_n 1, 38, 1, []),
  (38, .iload_n 2, 39, 2, []),
  (39, .iload_n 3, 40, 3, []),
  (40, .invokestatic 232, 43, 0, []),
  (43, .ireturn, 44, 0, [])]
def m_U16_indexOf : MI := (⟨"java/lang/StringUTF16", "indexOf", "([BIII)I"⟩, prog_20_method_40_code, 4, (some .int), p_U16_indexOf, 14)
def p_U16_indexOfChar : List PE := [(0, .iload_n 2, 1, 2, []),
  (1, .iload_n 3, 2, 3, []),
  (2, .aload_n 0, 3, 0, []),
  (3, .invokestatic 96, 6, 0, []),
  (6, .aload_n 0, 7, 0, []),
  (7, .iload_n 1, 8, 1, []),
  (8, .iload_n 2, 9, 2, []),
  (9, .iload_n 3, 10, 3, []),
  (10, .invokestatic 244, 13, 0, []),
  (13, .ireturn, 14, 0, [])]
def m_U16_indexOfChar : MI := (⟨"java/lang/StringUTF16", "indexOfChar", "([BIII)I"⟩, prog_20_method_47_code, 4, (some .int), p_U16_indexOfChar, 14)
def p_U16_indexOfCharUnsafe : List PE := [(0, .iload_n 2, 1, 2, []),
  (1, .istore 4, 3, 4, []),
  (3, .iload 4, 5, 4, []),
  (5, .iload_n 3, 6, 3, []),
  (6, .if_icmp .ge 22, 9, 28, []),
  (9, .aload_n 0, 10, 0, []),
  (10, .iload 4, 12, 4, []),
  (12, .invokestatic 71, 15, 0, []),
  (15, .iload_n 1, 16, 1, []),
  (16, .if_icmp .ne 6, 19, 22, []),
  (19, .iload 4, 21, 4, []),
  (21, .ireturn, 22, 0, []),
  (22, .iinc 4 1, 25, 4, [(1, 0)]),
  (25, .goto (-22), 28, 3, []),
  (28, .iconst (-1), 29, 0, [((-1), 0)]),
  (29, .ireturn, 30, 0, [])]
def m_U16_indexOfCharUnsafe : MI := (⟨"java/lang/StringUTF16", "indexOfCharUnsafe", "([BIII)I"⟩, prog_20_method_48_code, 5, (some .int), p_U16_indexOfCharUnsafe, 14)
def p_U16_indexOfSupplementary : List PE := [(0, .iload_n 1, 1, 1, []),
  (1, .invokestatic 164, 4, 0, []),
  (4, .ifCond .eq 65, 7, 69, []),
  (7, .iload_n 1, 8, 1, []),
  (8, .invokestatic 157, 11, 0, []),
  (11, .istore 4, 13, 4, []),
  (13, .iload_n 1, 14, 1, []),
  (14, .invokestatic 161, 17, 0, []),
  (17, .istore 5, 19, 5, []),
  (19, .iload_n 2, 20, 2, []),
  (20, .iload_n 3, 21, 3, []),
  (21, .aload_n 0, 22, 0, []),
  (22, .invokestatic 96, 25, 0, []),
  (25, .iload_n 2, 26, 2, []),
  (26, .istore 6, 28, 6, []),
  (28, .iload 6, 30, 6, []),
  (30, .iload_n 3, 31, 3, []),
  (31, .iconst 1, 32, 0, [(1, 0)]),
  (32, .isub, 33, 0, []),
  (33, .if_icmp .ge 36, 36, 69, []),
  (36, .aload_n 0, 37, 0, []),
  (37, .iload 6, 39, 6, []),
  (39, .invokestatic 71, 42, 0, []),
  (42, .iload 4, 44, 4, []),
  (44, .if_icmp .ne 19, 47, 63, []),
  (47, .aload_n 0, 48, 0, []),
  (48, .iload 6, 50, 6, []),
  (50, .iconst 1, 51, 0, [(1, 0)]),
  (51, .iadd, 52, 0, []),
  (52, .invokestatic 71, 55, 0, []),
  (55, .iload 5, 57, 5, []),
  (57, .if_icmp .ne 6, 60, 63, []),
  (60, .iload 6, 62, 6, []),
  (62, .ireturn, 63, 0, []),
  (63, .iinc 6 1, 66, 6, [(1, 0)]),
  (66, .goto (-38), 69, 28, []),
  (69, .iconst (-1), 70, 0, [((-1), 0)]),
  (70, .ireturn, 71, 0, [])]
def m_U16_indexOfSupplementary : MI := (⟨"java/lang/StringUTF16", "indexOfSupplementary", "([BIII)I"⟩, prog_20_method_49_code, 7, (some .int), p_U16_indexOfSupplementary, 14)
def p_U16_checkBoundsBeginEnd : List PE := [(0, .iload_n 0, 1, 0, []),
  (1, .iload_n 1, 2, 1, []),
  (2, .aload_n 2, 3, 2, []),
  (3, .invokestatic 48, 6, 0, []),
  (6, .invokestatic 241, 9, 0, []),
  (9, .return_, 10, 0, [])]
def m_U16_checkBoundsBeginEnd : MI := (⟨"java/lang/StringUTF16", "checkBoundsBeginEnd", "(II[B)V"⟩, prog_20_method_93_code, 3, none, p_U16_checkBoundsBeginEnd, 14)
def p_Pre_checkFromToIndex : List PE := [(0, .iload_n 0, 1, 0, []),
  (1, .ifCond .lt 13, 4, 14, []),
  (4, .iload_n 0, 5, 0, []),
  (5, .iload_n 1, 6, 1, []),
  (6, .if_icmp .gt 8, 9, 14, []),
  (9, .iload_n 1, 10, 1, []),
  (10, .iload_n 2, 11, 2, []),
  (11, .if_icmp .le 11, 14, 22, []),
  (14, .aload_n 3, 15, 3, []),
  (15, .iload_n 0, 16, 0, []),
  (16, .iload_n 1, 17, 1, []),
  (17, .iload_n 2, 18, 2, []),
  (18, .invokestatic 99, 21, 0, []),
  (21, .athrow, 22, 0, []),
  (22, .iload_n 0, 23, 0, []),
  (23, .ireturn, 24, 0, [])]
def m_Pre_checkFromToIndex : MI := (⟨"jdk/internal/util/Preconditions", "checkFromToIndex", "(IIILjava/util/function/BiFunction;)I"⟩, prog_22_method_12_code, 4, (some .int), p_Pre_checkFromToIndex, 14)
def pL_0 : List PE := [(0, .new 7, 3, 0, []),
  (3, .dup, 4, 0, []),
  (4, .invokespecial 9, 7, 0, []),
  (7, .astore_n 1, 8, 1, []),
  (8, .new 10, 11, 0, []),
  (11, .dup, 12, 0, []),
  (12, .invokespecial 12, 15, 0, []),
  (15, .astore_n 2, 16, 2, []),
  (16, .iconst 0, 17, 0, [(0, 0)]),
  (17, .istore_n 3, 18, 3, []),
  (18, .iload_n 3, 19, 3, []),
  (19, .aload_n 0, 20, 0, []),
  (20, .arraylength, 21, 0, []),
  (21, .bipush 6, 23, 0, [(6, 0)]),
  (23, .isub, 24, 0, []),
  (24, .if_icmp .gt 1363, 27, 1387, []),
  (27, .aload_n 0, 28, 0, []),
  (28, .iload_n 3, 29, 3, []),
  (29, .iaload, 30, 0, []),
  (30, .bipush 63, 32, 0, [(63, 0)]),
  (32, .iand, 33, 0, []),
  (33, .tableswitch 1348 0 38 #[171, 214, 247, 290, 323, 356, 399, 432, 465, 478, 541, 564, 627, 640, 673, 696, 719, 752, 785, 808, 841, 864, 887, 920, 943, 956, 979, 1022, 1045, 1088, 1131, 1194, 1217, 1240, 1253, 1266, 1289, 1302, 1325], 204, 1381, [(0, 204), (1, 247), (2, 280), (3, 323), (4, 356), (5, 389), (6, 432), (7, 465), (8, 498), (9, 511), (10, 574), (11, 597), (12, 660), (13, 673), (14, 706), (15, 729), (16, 752), (17, 785), (18, 818), (19, 841), (20, 874), (21, 897), (22, 920), (23, 953), (24, 976), (25, 989), (26, 1012), (27, 1055), (28, 1078), (29, 1121), (30, 1164), (31, 1227), (32, 1250), (33, 1273), (34, 1286), (35, 1299), (36, 1322), (37, 1335), (38, 1358)]),
  (204, .aload_n 1, 205, 1, []),
  (205, .aload_n 0, 206, 0, []),
  (206, .iload_n 3, 207, 3, []),
  (207, .iconst 1, 208, 0, [(1, 0)]),
  (208, .iadd, 209, 0, []),
  (209, .iaload, 210, 0, []),
  (210, .aload_n 0, 211, 0, []),
  (211, .iload_n 3, 212, 3, []),
  (212, .iconst 2, 213, 0, [(2, 0)]),
  (213, .iadd, 214, 0, []),
  (214, .iaload, 215, 0, []),
  (215, .aload_n 0, 216, 0, []),
  (216, .iload_n 3, 217, 3, []),
  (217, .iconst 3, 218, 0, [(3, 0)]),
  (218, .iadd, 219, 0, []),
  (219, .iaload, 220, 0, []),
  (220, .invokevirtual 13, 223, 0, []),
  (223, .aload_n 2, 224, 2, []),
  (224, .aload_n 0, 225, 0, []),
  (225, .iload_n 3, 226, 3, []),
  (226, .iconst 1, 227, 0, [(1, 0)]),
  (227, .iadd, 228, 0, []),
  (228, .iaload, 229, 0, []),
  (229, .aload_n 0, 230, 0, []),
  (230, .iload_n 3, 231, 3, []),
  (231, .iconst 2, 232, 0, [(2, 0)])]
def pL_1 : List PE := [(232, .iadd, 233, 0, []),
  (233, .iaload, 234, 0, []),
  (234, .aload_n 0, 235, 0, []),
  (235, .iload_n 3, 236, 3, []),
  (236, .iconst 3, 237, 0, [(3, 0)]),
  (237, .iadd, 238, 0, []),
  (238, .iaload, 239, 0, []),
  (239, .invokevirtual 17, 242, 0, []),
  (242, .if_icmp .eq 1139, 245, 1381, []),
  (245, .iconst 0, 246, 0, [(0, 0)]),
  (246, .ireturn, 247, 0, []),
  (247, .aload_n 1, 248, 1, []),
  (248, .aload_n 0, 249, 0, []),
  (249, .iload_n 3, 250, 3, []),
  (250, .iconst 1, 251, 0, [(1, 0)]),
  (251, .iadd, 252, 0, []),
  (252, .iaload, 253, 0, []),
  (253, .aload_n 0, 254, 0, []),
  (254, .iload_n 3, 255, 3, []),
  (255, .iconst 2, 256, 0, [(2, 0)]),
  (256, .iadd, 257, 0, []),
  (257, .iaload, 258, 0, []),
  (258, .invokevirtual 18, 261, 0, []),
  (261, .aload_n 2, 262, 2, []),
  (262, .aload_n 0, 263, 0, []),
  (263, .iload_n 3, 264, 3, []),
  (264, .iconst 1, 265, 0, [(1, 0)]),
  (265, .iadd, 266, 0, []),
  (266, .iaload, 267, 0, []),
  (267, .aload_n 0, 268, 0, []),
  (268, .iload_n 3, 269, 3, []),
  (269, .iconst 2, 270, 0, [(2, 0)]),
  (270, .iadd, 271, 0, []),
  (271, .iaload, 272, 0, []),
  (272, .invokevirtual 22, 275, 0, []),
  (275, .if_icmp .eq 1106, 278, 1381, []),
  (278, .iconst 0, 279, 0, [(0, 0)]),
  (279, .ireturn, 280, 0, []),
  (280, .aload_n 1, 281, 1, []),
  (281, .aload_n 0, 282, 0, []),
  (282, .iload_n 3, 283, 3, []),
  (283, .iconst 1, 284, 0, [(1, 0)]),
  (284, .iadd, 285, 0, []),
  (285, .iaload, 286, 0, []),
  (286, .aload_n 0, 287, 0, []),
  (287, .iload_n 3, 288, 3, []),
  (288, .iconst 2, 289, 0, [(2, 0)]),
  (289, .iadd, 290, 0, [])]
def pL_2 : List PE := [(290, .iaload, 291, 0, []),
  (291, .aload_n 0, 292, 0, []),
  (292, .iload_n 3, 293, 3, []),
  (293, .iconst 3, 294, 0, [(3, 0)]),
  (294, .iadd, 295, 0, []),
  (295, .iaload, 296, 0, []),
  (296, .invokevirtual 23, 299, 0, []),
  (299, .aload_n 2, 300, 2, []),
  (300, .aload_n 0, 301, 0, []),
  (301, .iload_n 3, 302, 3, []),
  (302, .iconst 1, 303, 0, [(1, 0)]),
  (303, .iadd, 304, 0, []),
  (304, .iaload, 305, 0, []),
  (305, .aload_n 0, 306, 0, []),
  (306, .iload_n 3, 307, 3, []),
  (307, .iconst 2, 308, 0, [(2, 0)]),
  (308, .iadd, 309, 0, []),
  (309, .iaload, 310, 0, []),
  (310, .aload_n 0, 311, 0, []),
  (311, .iload_n 3, 312, 3, []),
  (312, .iconst 3, 313, 0, [(3, 0)]),
  (313, .iadd, 314, 0, []),
  (314, .iaload, 315, 0, []),
  (315, .invokevirtual 26, 318, 0, []),
  (318, .if_icmp .eq 1063, 321, 1381, []),
  (321, .iconst 0, 322, 0, [(0, 0)]),
  (322, .ireturn, 323, 0, []),
  (323, .aload_n 1, 324, 1, []),
  (324, .aload_n 0, 325, 0, []),
  (325, .iload_n 3, 326, 3, []),
  (326, .iconst 1, 327, 0, [(1, 0)]),
  (327, .iadd, 328, 0, []),
  (328, .iaload, 329, 0, []),
  (329, .aload_n 0, 330, 0, []),
  (330, .iload_n 3, 331, 3, []),
  (331, .iconst 2, 332, 0, [(2, 0)]),
  (332, .iadd, 333, 0, []),
  (333, .iaload, 334, 0, []),
  (334, .invokevirtual 27, 337, 0, []),
  (337, .aload_n 2, 338, 2, []),
  (338, .aload_n 0, 339, 0, []),
  (339, .iload_n 3, 340, 3, []),
  (340, .iconst 1, 341, 0, [(1, 0)]),
  (341, .iadd, 342, 0, []),
  (342, .iaload, 343, 0, []),
  (343, .aload_n 0, 344, 0, []),
  (344, .iload_n 3, 345, 3, []),
  (345, .iconst 2, 346, 0, [(2, 0)])]
def pL_3 : List PE := [(346, .iadd, 347, 0, []),
  (347, .iaload, 348, 0, []),
  (348, .invokevirtual 30, 351, 0, []),
  (351, .if_icmp .eq 1030, 354, 1381, []),
  (354, .iconst 0, 355, 0, [(0, 0)]),
  (355, .ireturn, 356, 0, []),
  (356, .aload_n 1, 357, 1, []),
  (357, .aload_n 0, 358, 0, []),
  (358, .iload_n 3, 359, 3, []),
  (359, .iconst 1, 360, 0, [(1, 0)]),
  (360, .iadd, 361, 0, []),
  (361, .iaload, 362, 0, []),
  (362, .aload_n 0, 363, 0, []),
  (363, .iload_n 3, 364, 3, []),
  (364, .iconst 2, 365, 0, [(2, 0)]),
  (365, .iadd, 366, 0, []),
  (366, .iaload, 367, 0, []),
  (367, .invokevirtual 31, 370, 0, []),
  (370, .aload_n 2, 371, 2, []),
  (371, .aload_n 0, 372, 0, []),
  (372, .iload_n 3, 373, 3, []),
  (373, .iconst 1, 374, 0, [(1, 0)]),
  (374, .iadd, 375, 0, []),
  (375, .iaload, 376, 0, []),
  (376, .aload_n 0, 377, 0, []),
  (377, .iload_n 3, 378, 3, []),
  (378, .iconst 2, 379, 0, [(2, 0)]),
  (379, .iadd, 380, 0, []),
  (380, .iaload, 381, 0, []),
  (381, .invokevirtual 34, 384, 0, []),
  (384, .if_icmp .eq 997, 387, 1381, []),
  (387, .iconst 0, 388, 0, [(0, 0)]),
  (388, .ireturn, 389, 0, []),
  (389, .aload_n 1, 390, 1, []),
  (390, .aload_n 0, 391, 0, []),
  (391, .iload_n 3, 392, 3, []),
  (392, .iconst 1, 393, 0, [(1, 0)]),
  (393, .iadd, 394, 0, []),
  (394, .iaload, 395, 0, []),
  (395, .aload_n 0, 396, 0, []),
  (396, .iload_n 3, 397, 3, []),
  (397, .iconst 2, 398, 0, [(2, 0)]),
  (398, .iadd, 399, 0, []),
  (399, .iaload, 400, 0, []),
  (400, .aload_n 0, 401, 0, []),
  (401, .iload_n 3, 402, 3, []),
  (402, .iconst 3, 403, 0, [(3, 0)]),
  (403, .iadd, 404, 0, [])]
def pL_4 : List PE := [(404, .iaload, 405, 0, []),
  (405, .invokevirtual 35, 408, 0, []),
  (408, .aload_n 2, 409, 2, []),
  (409, .aload_n 0, 410, 0, []),
  (410, .iload_n 3, 411, 3, []),
  (411, .iconst 1, 412, 0, [(1, 0)]),
  (412, .iadd, 413, 0, []),
  (413, .iaload, 414, 0, []),
  (414, .aload_n 0, 415, 0, []),
  (415, .iload_n 3, 416, 3, []),
  (416, .iconst 2, 417, 0, [(2, 0)]),
  (417, .iadd, 418, 0, []),
  (418, .iaload, 419, 0, []),
  (419, .aload_n 0, 420, 0, []),
  (420, .iload_n 3, 421, 3, []),
  (421, .iconst 3, 422, 0, [(3, 0)]),
  (422, .iadd, 423, 0, []),
  (423, .iaload, 424, 0, []),
  (424, .invokevirtual 38, 427, 0, []),
  (427, .if_icmp .eq 954, 430, 1381, []),
  (430, .iconst 0, 431, 0, [(0, 0)]),
  (431, .ireturn, 432, 0, []),
  (432, .aload_n 1, 433, 1, []),
  (433, .aload_n 0, 434, 0, []),
  (434, .iload_n 3, 435, 3, []),
  (435, .iconst 1, 436, 0, [(1, 0)]),
  (436, .iadd, 437, 0, []),
  (437, .iaload, 438, 0, []),
  (438, .aload_n 0, 439, 0, []),
  (439, .iload_n 3, 440, 3, []),
  (440, .iconst 2, 441, 0, [(2, 0)]),
  (441, .iadd, 442, 0, []),
  (442, .iaload, 443, 0, []),
  (443, .invokevirtual 39, 446, 0, []),
  (446, .aload_n 2, 447, 2, []),
  (447, .aload_n 0, 448, 0, []),
  (448, .iload_n 3, 449, 3, []),
  (449, .iconst 1, 450, 0, [(1, 0)]),
  (450, .iadd, 451, 0, []),
  (451, .iaload, 452, 0, []),
  (452, .aload_n 0, 453, 0, []),
  (453, .iload_n 3, 454, 3, []),
  (454, .iconst 2, 455, 0, [(2, 0)]),
  (455, .iadd, 456, 0, []),
  (456, .iaload, 457, 0, []),
  (457, .invokevirtual 42, 460, 0, []),
  (460, .if_icmp .eq 921, 463, 1381, []),
  (463, .iconst 0, 464, 0, [(0, 0)])]
def pL_5 : List PE := [(464, .ireturn, 465, 0, []),
  (465, .aload_n 1, 466, 1, []),
  (466, .aload_n 0, 467, 0, []),
  (467, .iload_n 3, 468, 3, []),
  (468, .iconst 1, 469, 0, [(1, 0)]),
  (469, .iadd, 470, 0, []),
  (470, .iaload, 471, 0, []),
  (471, .aload_n 0, 472, 0, []),
  (472, .iload_n 3, 473, 3, []),
  (473, .iconst 2, 474, 0, [(2, 0)]),
  (474, .iadd, 475, 0, []),
  (475, .iaload, 476, 0, []),
  (476, .invokevirtual 43, 479, 0, []),
  (479, .aload_n 2, 480, 2, []),
  (480, .aload_n 0, 481, 0, []),
  (481, .iload_n 3, 482, 3, []),
  (482, .iconst 1, 483, 0, [(1, 0)]),
  (483, .iadd, 484, 0, []),
  (484, .iaload, 485, 0, []),
  (485, .aload_n 0, 486, 0, []),
  (486, .iload_n 3, 487, 3, []),
  (487, .iconst 2, 488, 0, [(2, 0)]),
  (488, .iadd, 489, 0, []),
  (489, .iaload, 490, 0, []),
  (490, .invokevirtual 46, 493, 0, []),
  (493, .if_icmp .eq 888, 496, 1381, []),
  (496, .iconst 0, 497, 0, [(0, 0)]),
  (497, .ireturn, 498, 0, []),
  (498, .aload_n 1, 499, 1, []),
  (499, .invokevirtual 47, 502, 0, []),
  (502, .aload_n 2, 503, 2, []),
  (503, .invokevirtual 51, 506, 0, []),
  (506, .if_icmp .eq 875, 509, 1381, []),
  (509, .iconst 0, 510, 0, [(0, 0)]),
  (510, .ireturn, 511, 0, []),
  (511, .aload_n 1, 512, 1, []),
  (512, .aload_n 0, 513, 0, []),
  (513, .iload_n 3, 514, 3, []),
  (514, .iconst 1, 515, 0, [(1, 0)]),
  (515, .iadd, 516, 0, []),
  (516, .iaload, 517, 0, []),
  (517, .i2l, 518, 0, []),
  (518, .bipush 32, 520, 0, [(32, 0)]),
  (520, .lshl, 521, 0, []),
  (521, .aload_n 0, 522, 0, []),
  (522, .iload_n 3, 523, 3, []),
  (523, .iconst 2, 524, 0, [(2, 0)]),
  (524, .iadd, 525, 0, [])]
def pL_6 : List PE := [(525, .iaload, 526, 0, []),
  (526, .i2l, 527, 0, []),
  (527, .ldc2_w 52, 530, 4294967295, [(0, 1774)]),
  (530, .land, 531, 0, []),
  (531, .lor, 532, 0, []),
  (532, .aload_n 0, 533, 0, []),
  (533, .iload_n 3, 534, 3, []),
  (534, .iconst 3, 535, 0, [(3, 0)]),
  (535, .iadd, 536, 0, []),
  (536, .iaload, 537, 0, []),
  (537, .invokevirtual 54, 540, 0, []),
  (540, .aload_n 2, 541, 2, []),
  (541, .aload_n 0, 542, 0, []),
  (542, .iload_n 3, 543, 3, []),
  (543, .iconst 1, 544, 0, [(1, 0)]),
  (544, .iadd, 545, 0, []),
  (545, .iaload, 546, 0, []),
  (546, .i2l, 547, 0, []),
  (547, .bipush 32, 549, 0, [(32, 0)]),
  (549, .lshl, 550, 0, []),
  (550, .aload_n 0, 551, 0, []),
  (551, .iload_n 3, 552, 3, []),
  (552, .iconst 2, 553, 0, [(2, 0)]),
  (553, .iadd, 554, 0, []),
  (554, .iaload, 555, 0, []),
  (555, .i2l, 556, 0, []),
  (556, .ldc2_w 52, 559, 4294967295, [(0, 1774)]),
  (559, .land, 560, 0, []),
  (560, .lor, 561, 0, []),
  (561, .aload_n 0, 562, 0, []),
  (562, .iload_n 3, 563, 3, []),
  (563, .iconst 3, 564, 0, [(3, 0)]),
  (564, .iadd, 565, 0, []),
  (565, .iaload, 566, 0, []),
  (566, .invokevirtual 58, 569, 0, []),
  (569, .if_icmp .eq 812, 572, 1381, []),
  (572, .iconst 0, 573, 0, [(0, 0)]),
  (573, .ireturn, 574, 0, []),
  (574, .aload_n 1, 575, 1, []),
  (575, .aload_n 0, 576, 0, []),
  (576, .iload_n 3, 577, 3, []),
  (577, .iconst 1, 578, 0, [(1, 0)]),
  (578, .iadd, 579, 0, []),
  (579, .iaload, 580, 0, []),
  (580, .invokevirtual 59, 583, 0, []),
  (583, .aload_n 2, 584, 2, []),
  (584, .aload_n 0, 585, 0, []),
  (585, .iload_n 3, 586, 3, [])]
def pL_7 : List PE := [(586, .iconst 1, 587, 0, [(1, 0)]),
  (587, .iadd, 588, 0, []),
  (588, .iaload, 589, 0, []),
  (589, .invokevirtual 63, 592, 0, []),
  (592, .if_icmp .eq 789, 595, 1381, []),
  (595, .iconst 0, 596, 0, [(0, 0)]),
  (596, .ireturn, 597, 0, []),
  (597, .aload_n 1, 598, 1, []),
  (598, .aload_n 0, 599, 0, []),
  (599, .iload_n 3, 600, 3, []),
  (600, .iconst 1, 601, 0, [(1, 0)]),
  (601, .iadd, 602, 0, []),
  (602, .iaload, 603, 0, []),
  (603, .aload_n 0, 604, 0, []),
  (604, .iload_n 3, 605, 3, []),
  (605, .iconst 2, 606, 0, [(2, 0)]),
  (606, .iadd, 607, 0, []),
  (607, .iaload, 608, 0, []),
  (608, .aload_n 0, 609, 0, []),
  (609, .iload_n 3, 610, 3, []),
  (610, .iconst 3, 611, 0, [(3, 0)]),
  (611, .iadd, 612, 0, []),
  (612, .iaload, 613, 0, []),
  (613, .aload_n 0, 614, 0, []),
  (614, .iload_n 3, 615, 3, []),
  (615, .iconst 4, 616, 0, [(4, 0)]),
  (616, .iadd, 617, 0, []),
  (617, .iaload, 618, 0, []),
  (618, .aload_n 0, 619, 0, []),
  (619, .iload_n 3, 620, 3, []),
  (620, .iconst 5, 621, 0, [(5, 0)]),
  (621, .iadd, 622, 0, []),
  (622, .iaload, 623, 0, []),
  (623, .invokevirtual 64, 626, 0, []),
  (626, .aload_n 2, 627, 2, []),
  (627, .aload_n 0, 628, 0, []),
  (628, .iload_n 3, 629, 3, []),
  (629, .iconst 1, 630, 0, [(1, 0)]),
  (630, .iadd, 631, 0, []),
  (631, .iaload, 632, 0, []),
  (632, .aload_n 0, 633, 0, []),
  (633, .iload_n 3, 634, 3, []),
  (634, .iconst 2, 635, 0, [(2, 0)]),
  (635, .iadd, 636, 0, []),
  (636, .iaload, 637, 0, []),
  (637, .aload_n 0, 638, 0, []),
  (638, .iload_n 3, 639, 3, []),
  (639, .iconst 3, 640, 0, [(3, 0)])]
def pL_8 : List PE := [(640, .iadd, 641, 0, []),
  (641, .iaload, 642, 0, []),
  (642, .aload_n 0, 643, 0, []),
  (643, .iload_n 3, 644, 3, []),
  (644, .iconst 4, 645, 0, [(4, 0)]),
  (645, .iadd, 646, 0, []),
  (646, .iaload, 647, 0, []),
  (647, .aload_n 0, 648, 0, []),
  (648, .iload_n 3, 649, 3, []),
  (649, .iconst 5, 650, 0, [(5, 0)]),
  (650, .iadd, 651, 0, []),
  (651, .iaload, 652, 0, []),
  (652, .invokevirtual 68, 655, 0, []),
  (655, .if_icmp .eq 726, 658, 1381, []),
  (658, .iconst 0, 659, 0, [(0, 0)]),
  (659, .ireturn, 660, 0, []),
  (660, .aload_n 1, 661, 1, []),
  (661, .invokevirtual 69, 664, 0, []),
  (664, .aload_n 2, 665, 2, []),
  (665, .invokevirtual 72, 668, 0, []),
  (668, .if_icmp .eq 713, 671, 1381, []),
  (671, .iconst 0, 672, 0, [(0, 0)]),
  (672, .ireturn, 673, 0, []),
  (673, .aload_n 1, 674, 1, []),
  (674, .aload_n 0, 675, 0, []),
  (675, .iload_n 3, 676, 3, []),
  (676, .iconst 1, 677, 0, [(1, 0)]),
  (677, .iadd, 678, 0, []),
  (678, .iaload, 679, 0, []),
  (679, .aload_n 0, 680, 0, []),
  (680, .iload_n 3, 681, 3, []),
  (681, .iconst 2, 682, 0, [(2, 0)]),
  (682, .iadd, 683, 0, []),
  (683, .iaload, 684, 0, []),
  (684, .invokevirtual 73, 687, 0, []),
  (687, .aload_n 2, 688, 2, []),
  (688, .aload_n 0, 689, 0, []),
  (689, .iload_n 3, 690, 3, []),
  (690, .iconst 1, 691, 0, [(1, 0)]),
  (691, .iadd, 692, 0, []),
  (692, .iaload, 693, 0, []),
  (693, .aload_n 0, 694, 0, []),
  (694, .iload_n 3, 695, 3, []),
  (695, .iconst 2, 696, 0, [(2, 0)]),
  (696, .iadd, 697, 0, []),
  (697, .iaload, 698, 0, []),
  (698, .invokevirtual 76, 701, 0, []),
  (701, .if_icmp .eq 680, 704, 1381, [])]
def pL_9 : List PE := [(704, .iconst 0, 705, 0, [(0, 0)]),
  (705, .ireturn, 706, 0, []),
  (706, .aload_n 1, 707, 1, []),
  (707, .aload_n 0, 708, 0, []),
  (708, .iload_n 3, 709, 3, []),
  (709, .iconst 1, 710, 0, [(1, 0)]),
  (710, .iadd, 711, 0, []),
  (711, .iaload, 712, 0, []),
  (712, .invokevirtual 77, 715, 0, []),
  (715, .aload_n 2, 716, 2, []),
  (716, .aload_n 0, 717, 0, []),
  (717, .iload_n 3, 718, 3, []),
  (718, .iconst 1, 719, 0, [(1, 0)]),
  (719, .iadd, 720, 0, []),
  (720, .iaload, 721, 0, []),
  (721, .invokevirtual 80, 724, 0, []),
  (724, .if_icmp .eq 657, 727, 1381, []),
  (727, .iconst 0, 728, 0, [(0, 0)]),
  (728, .ireturn, 729, 0, []),
  (729, .aload_n 1, 730, 1, []),
  (730, .aload_n 0, 731, 0, []),
  (731, .iload_n 3, 732, 3, []),
  (732, .iconst 1, 733, 0, [(1, 0)]),
  (733, .iadd, 734, 0, []),
  (734, .iaload, 735, 0, []),
  (735, .invokevirtual 81, 738, 0, []),
  (738, .aload_n 2, 739, 2, []),
  (739, .aload_n 0, 740, 0, []),
  (740, .iload_n 3, 741, 3, []),
  (741, .iconst 1, 742, 0, [(1, 0)]),
  (742, .iadd, 743, 0, []),
  (743, .iaload, 744, 0, []),
  (744, .invokevirtual 84, 747, 0, []),
  (747, .if_icmp .eq 634, 750, 1381, []),
  (750, .iconst 0, 751, 0, [(0, 0)]),
  (751, .ireturn, 752, 0, []),
  (752, .aload_n 1, 753, 1, []),
  (753, .aload_n 0, 754, 0, []),
  (754, .iload_n 3, 755, 3, []),
  (755, .iconst 1, 756, 0, [(1, 0)]),
  (756, .iadd, 757, 0, []),
  (757, .iaload, 758, 0, []),
  (758, .aload_n 0, 759, 0, []),
  (759, .iload_n 3, 760, 3, []),
  (760, .iconst 2, 761, 0, [(2, 0)]),
  (761, .iadd, 762, 0, []),
  (762, .iaload, 763, 0, []),
  (763, .invokevirtual 85, 766, 0, [])]
def pL_10 : List PE := [(766, .aload_n 2, 767, 2, []),
  (767, .aload_n 0, 768, 0, []),
  (768, .iload_n 3, 769, 3, []),
  (769, .iconst 1, 770, 0, [(1, 0)]),
  (770, .iadd, 771, 0, []),
  (771, .iaload, 772, 0, []),
  (772, .aload_n 0, 773, 0, []),
  (773, .iload_n 3, 774, 3, []),
  (774, .iconst 2, 775, 0, [(2, 0)]),
  (775, .iadd, 776, 0, []),
  (776, .iaload, 777, 0, []),
  (777, .invokevirtual 88, 780, 0, []),
  (780, .if_icmp .eq 601, 783, 1381, []),
  (783, .iconst 0, 784, 0, [(0, 0)]),
  (784, .ireturn, 785, 0, []),
  (785, .aload_n 1, 786, 1, []),
  (786, .aload_n 0, 787, 0, []),
  (787, .iload_n 3, 788, 3, []),
  (788, .iconst 1, 789, 0, [(1, 0)]),
  (789, .iadd, 790, 0, []),
  (790, .iaload, 791, 0, []),
  (791, .aload_n 0, 792, 0, []),
  (792, .iload_n 3, 793, 3, []),
  (793, .iconst 2, 794, 0, [(2, 0)]),
  (794, .iadd, 795, 0, []),
  (795, .iaload, 796, 0, []),
  (796, .invokevirtual 89, 799, 0, []),
  (799, .aload_n 2, 800, 2, []),
  (800, .aload_n 0, 801, 0, []),
  (801, .iload_n 3, 802, 3, []),
  (802, .iconst 1, 803, 0, [(1, 0)]),
  (803, .iadd, 804, 0, []),
  (804, .iaload, 805, 0, []),
  (805, .aload_n 0, 806, 0, []),
  (806, .iload_n 3, 807, 3, []),
  (807, .iconst 2, 808, 0, [(2, 0)]),
  (808, .iadd, 809, 0, []),
  (809, .iaload, 810, 0, []),
  (810, .invokevirtual 92, 813, 0, []),
  (813, .if_icmp .eq 568, 816, 1381, []),
  (816, .iconst 0, 817, 0, [(0, 0)]),
  (817, .ireturn, 818, 0, []),
  (818, .aload_n 1, 819, 1, []),
  (819, .aload_n 0, 820, 0, []),
  (820, .iload_n 3, 821, 3, []),
  (821, .iconst 1, 822, 0, [(1, 0)]),
  (822, .iadd, 823, 0, []),
  (823, .iaload, 824, 0, [])]
def pL_11 : List PE := [(824, .invokevirtual 93, 827, 0, []),
  (827, .aload_n 2, 828, 2, []),
  (828, .aload_n 0, 829, 0, []),
  (829, .iload_n 3, 830, 3, []),
  (830, .iconst 1, 831, 0, [(1, 0)]),
  (831, .iadd, 832, 0, []),
  (832, .iaload, 833, 0, []),
  (833, .invokevirtual 96, 836, 0, []),
  (836, .if_icmp .eq 545, 839, 1381, []),
  (839, .iconst 0, 840, 0, [(0, 0)]),
  (840, .ireturn, 841, 0, []),
  (841, .aload_n 1, 842, 1, []),
  (842, .aload_n 0, 843, 0, []),
  (843, .iload_n 3, 844, 3, []),
  (844, .iconst 1, 845, 0, [(1, 0)]),
  (845, .iadd, 846, 0, []),
  (846, .iaload, 847, 0, []),
  (847, .aload_n 0, 848, 0, []),
  (848, .iload_n 3, 849, 3, []),
  (849, .iconst 2, 850, 0, [(2, 0)]),
  (850, .iadd, 851, 0, []),
  (851, .iaload, 852, 0, []),
  (852, .invokevirtual 97, 855, 0, []),
  (855, .aload_n 2, 856, 2, []),
  (856, .aload_n 0, 857, 0, []),
  (857, .iload_n 3, 858, 3, []),
  (858, .iconst 1, 859, 0, [(1, 0)]),
  (859, .iadd, 860, 0, []),
  (860, .iaload, 861, 0, []),
  (861, .aload_n 0, 862, 0, []),
  (862, .iload_n 3, 863, 3, []),
  (863, .iconst 2, 864, 0, [(2, 0)]),
  (864, .iadd, 865, 0, []),
  (865, .iaload, 866, 0, []),
  (866, .invokevirtual 100, 869, 0, []),
  (869, .if_icmp .eq 512, 872, 1381, []),
  (872, .iconst 0, 873, 0, [(0, 0)]),
  (873, .ireturn, 874, 0, []),
  (874, .aload_n 1, 875, 1, []),
  (875, .aload_n 0, 876, 0, []),
  (876, .iload_n 3, 877, 3, []),
  (877, .iconst 1, 878, 0, [(1, 0)]),
  (878, .iadd, 879, 0, []),
  (879, .iaload, 880, 0, []),
  (880, .invokevirtual 101, 883, 0, []),
  (883, .aload_n 2, 884, 2, []),
  (884, .aload_n 0, 885, 0, []),
  (885, .iload_n 3, 886, 3, [])]
def pL_12 : List PE := [(886, .iconst 1, 887, 0, [(1, 0)]),
  (887, .iadd, 888, 0, []),
  (888, .iaload, 889, 0, []),
  (889, .invokevirtual 104, 892, 0, []),
  (892, .if_icmp .eq 489, 895, 1381, []),
  (895, .iconst 0, 896, 0, [(0, 0)]),
  (896, .ireturn, 897, 0, []),
  (897, .aload_n 1, 898, 1, []),
  (898, .aload_n 0, 899, 0, []),
  (899, .iload_n 3, 900, 3, []),
  (900, .iconst 1, 901, 0, [(1, 0)]),
  (901, .iadd, 902, 0, []),
  (902, .iaload, 903, 0, []),
  (903, .invokevirtual 105, 906, 0, []),
  (906, .aload_n 2, 907, 2, []),
  (907, .aload_n 0, 908, 0, []),
  (908, .iload_n 3, 909, 3, []),
  (909, .iconst 1, 910, 0, [(1, 0)]),
  (910, .iadd, 911, 0, []),
  (911, .iaload, 912, 0, []),
  (912, .invokevirtual 108, 915, 0, []),
  (915, .if_icmp .eq 466, 918, 1381, []),
  (918, .iconst 0, 919, 0, [(0, 0)]),
  (919, .ireturn, 920, 0, []),
  (920, .aload_n 1, 921, 1, []),
  (921, .aload_n 0, 922, 0, []),
  (922, .iload_n 3, 923, 3, []),
  (923, .iconst 1, 924, 0, [(1, 0)]),
  (924, .iadd, 925, 0, []),
  (925, .iaload, 926, 0, []),
  (926, .aload_n 0, 927, 0, []),
  (927, .iload_n 3, 928, 3, []),
  (928, .iconst 2, 929, 0, [(2, 0)]),
  (929, .iadd, 930, 0, []),
  (930, .iaload, 931, 0, []),
  (931, .invokevirtual 109, 934, 0, []),
  (934, .aload_n 2, 935, 2, []),
  (935, .aload_n 0, 936, 0, []),
  (936, .iload_n 3, 937, 3, []),
  (937, .iconst 1, 938, 0, [(1, 0)]),
  (938, .iadd, 939, 0, []),
  (939, .iaload, 940, 0, []),
  (940, .aload_n 0, 941, 0, []),
  (941, .iload_n 3, 942, 3, []),
  (942, .iconst 2, 943, 0, [(2, 0)]),
  (943, .iadd, 944, 0, []),
  (944, .iaload, 945, 0, []),
  (945, .invokevirtual 112, 948, 0, [])]
def pL_13 : List PE := [(948, .if_icmp .eq 433, 951, 1381, []),
  (951, .iconst 0, 952, 0, [(0, 0)]),
  (952, .ireturn, 953, 0, []),
  (953, .aload_n 1, 954, 1, []),
  (954, .aload_n 0, 955, 0, []),
  (955, .iload_n 3, 956, 3, []),
  (956, .iconst 1, 957, 0, [(1, 0)]),
  (957, .iadd, 958, 0, []),
  (958, .iaload, 959, 0, []),
  (959, .invokevirtual 113, 962, 0, []),
  (962, .aload_n 2, 963, 2, []),
  (963, .aload_n 0, 964, 0, []),
  (964, .iload_n 3, 965, 3, []),
  (965, .iconst 1, 966, 0, [(1, 0)]),
  (966, .iadd, 967, 0, []),
  (967, .iaload, 968, 0, []),
  (968, .invokevirtual 116, 971, 0, []),
  (971, .if_icmp .eq 410, 974, 1381, []),
  (974, .iconst 0, 975, 0, [(0, 0)]),
  (975, .ireturn, 976, 0, []),
  (976, .aload_n 1, 977, 1, []),
  (977, .invokevirtual 117, 980, 0, []),
  (980, .aload_n 2, 981, 2, []),
  (981, .invokevirtual 120, 984, 0, []),
  (984, .if_icmp .eq 397, 987, 1381, []),
  (987, .iconst 0, 988, 0, [(0, 0)]),
  (988, .ireturn, 989, 0, []),
  (989, .aload_n 1, 990, 1, []),
  (990, .aload_n 0, 991, 0, []),
  (991, .iload_n 3, 992, 3, []),
  (992, .iconst 1, 993, 0, [(1, 0)]),
  (993, .iadd, 994, 0, []),
  (994, .iaload, 995, 0, []),
  (995, .invokevirtual 121, 998, 0, []),
  (998, .aload_n 2, 999, 2, []),
  (999, .aload_n 0, 1000, 0, []),
  (1000, .iload_n 3, 1001, 3, []),
  (1001, .iconst 1, 1002, 0, [(1, 0)]),
  (1002, .iadd, 1003, 0, []),
  (1003, .iaload, 1004, 0, []),
  (1004, .invokevirtual 124, 1007, 0, []),
  (1007, .if_icmp .eq 374, 1010, 1381, []),
  (1010, .iconst 0, 1011, 0, [(0, 0)]),
  (1011, .ireturn, 1012, 0, []),
  (1012, .aload_n 1, 1013, 1, []),
  (1013, .aload_n 0, 1014, 0, []),
  (1014, .iload_n 3, 1015, 3, []),
  (1015, .iconst 1, 1016, 0, [(1, 0)])]
def pL_14 : List PE := [(1016, .iadd, 1017, 0, []),
  (1017, .iaload, 1018, 0, []),
  (1018, .aload_n 0, 1019, 0, []),
  (1019, .iload_n 3, 1020, 3, []),
  (1020, .iconst 2, 1021, 0, [(2, 0)]),
  (1021, .iadd, 1022, 0, []),
  (1022, .iaload, 1023, 0, []),
  (1023, .aload_n 0, 1024, 0, []),
  (1024, .iload_n 3, 1025, 3, []),
  (1025, .iconst 3, 1026, 0, [(3, 0)]),
  (1026, .iadd, 1027, 0, []),
  (1027, .iaload, 1028, 0, []),
  (1028, .invokevirtual 125, 1031, 0, []),
  (1031, .aload_n 2, 1032, 2, []),
  (1032, .aload_n 0, 1033, 0, []),
  (1033, .iload_n 3, 1034, 3, []),
  (1034, .iconst 1, 1035, 0, [(1, 0)]),
  (1035, .iadd, 1036, 0, []),
  (1036, .iaload, 1037, 0, []),
  (1037, .aload_n 0, 1038, 0, []),
  (1038, .iload_n 3, 1039, 3, []),
  (1039, .iconst 2, 1040, 0, [(2, 0)]),
  (1040, .iadd, 1041, 0, []),
  (1041, .iaload, 1042, 0, []),
  (1042, .aload_n 0, 1043, 0, []),
  (1043, .iload_n 3, 1044, 3, []),
  (1044, .iconst 3, 1045, 0, [(3, 0)]),
  (1045, .iadd, 1046, 0, []),
  (1046, .iaload, 1047, 0, []),
  (1047, .invokevirtual 128, 1050, 0, []),
  (1050, .if_icmp .eq 331, 1053, 1381, []),
  (1053, .iconst 0, 1054, 0, [(0, 0)]),
  (1054, .ireturn, 1055, 0, []),
  (1055, .aload_n 1, 1056, 1, []),
  (1056, .aload_n 0, 1057, 0, []),
  (1057, .iload_n 3, 1058, 3, []),
  (1058, .iconst 1, 1059, 0, [(1, 0)]),
  (1059, .iadd, 1060, 0, []),
  (1060, .iaload, 1061, 0, []),
  (1061, .invokevirtual 129, 1064, 0, []),
  (1064, .aload_n 2, 1065, 2, []),
  (1065, .aload_n 0, 1066, 0, []),
  (1066, .iload_n 3, 1067, 3, []),
  (1067, .iconst 1, 1068, 0, [(1, 0)]),
  (1068, .iadd, 1069, 0, []),
  (1069, .iaload, 1070, 0, []),
  (1070, .invokevirtual 132, 1073, 0, []),
  (1073, .if_icmp .eq 308, 1076, 1381, [])]
def pL_15 : List PE := [(1076, .iconst 0, 1077, 0, [(0, 0)]),
  (1077, .ireturn, 1078, 0, []),
  (1078, .aload_n 1, 1079, 1, []),
  (1079, .aload_n 0, 1080, 0, []),
  (1080, .iload_n 3, 1081, 3, []),
  (1081, .iconst 1, 1082, 0, [(1, 0)]),
  (1082, .iadd, 1083, 0, []),
  (1083, .iaload, 1084, 0, []),
  (1084, .aload_n 0, 1085, 0, []),
  (1085, .iload_n 3, 1086, 3, []),
  (1086, .iconst 2, 1087, 0, [(2, 0)]),
  (1087, .iadd, 1088, 0, []),
  (1088, .iaload, 1089, 0, []),
  (1089, .aload_n 0, 1090, 0, []),
  (1090, .iload_n 3, 1091, 3, []),
  (1091, .iconst 3, 1092, 0, [(3, 0)]),
  (1092, .iadd, 1093, 0, []),
  (1093, .iaload, 1094, 0, []),
  (1094, .invokevirtual 133, 1097, 0, []),
  (1097, .aload_n 2, 1098, 2, []),
  (1098, .aload_n 0, 1099, 0, []),
  (1099, .iload_n 3, 1100, 3, []),
  (1100, .iconst 1, 1101, 0, [(1, 0)]),
  (1101, .iadd, 1102, 0, []),
  (1102, .iaload, 1103, 0, []),
  (1103, .aload_n 0, 1104, 0, []),
  (1104, .iload_n 3, 1105, 3, []),
  (1105, .iconst 2, 1106, 0, [(2, 0)]),
  (1106, .iadd, 1107, 0, []),
  (1107, .iaload, 1108, 0, []),
  (1108, .aload_n 0, 1109, 0, []),
  (1109, .iload_n 3, 1110, 3, []),
  (1110, .iconst 3, 1111, 0, [(3, 0)]),
  (1111, .iadd, 1112, 0, []),
  (1112, .iaload, 1113, 0, []),
  (1113, .invokevirtual 136, 1116, 0, []),
  (1116, .if_icmp .eq 265, 1119, 1381, []),
  (1119, .iconst 0, 1120, 0, [(0, 0)]),
  (1120, .ireturn, 1121, 0, []),
  (1121, .aload_n 1, 1122, 1, []),
  (1122, .aload_n 0, 1123, 0, []),
  (1123, .iload_n 3, 1124, 3, []),
  (1124, .iconst 1, 1125, 0, [(1, 0)]),
  (1125, .iadd, 1126, 0, []),
  (1126, .iaload, 1127, 0, []),
  (1127, .aload_n 0, 1128, 0, []),
  (1128, .iload_n 3, 1129, 3, []),
  (1129, .iconst 2, 1130, 0, [(2, 0)])]
def pL_16 : List PE := [(1130, .iadd, 1131, 0, []),
  (1131, .iaload, 1132, 0, []),
  (1132, .aload_n 0, 1133, 0, []),
  (1133, .iload_n 3, 1134, 3, []),
  (1134, .iconst 3, 1135, 0, [(3, 0)]),
  (1135, .iadd, 1136, 0, []),
  (1136, .iaload, 1137, 0, []),
  (1137, .invokevirtual 137, 1140, 0, []),
  (1140, .aload_n 2, 1141, 2, []),
  (1141, .aload_n 0, 1142, 0, []),
  (1142, .iload_n 3, 1143, 3, []),
  (1143, .iconst 1, 1144, 0, [(1, 0)]),
  (1144, .iadd, 1145, 0, []),
  (1145, .iaload, 1146, 0, []),
  (1146, .aload_n 0, 1147, 0, []),
  (1147, .iload_n 3, 1148, 3, []),
  (1148, .iconst 2, 1149, 0, [(2, 0)]),
  (1149, .iadd, 1150, 0, []),
  (1150, .iaload, 1151, 0, []),
  (1151, .aload_n 0, 1152, 0, []),
  (1152, .iload_n 3, 1153, 3, []),
  (1153, .iconst 3, 1154, 0, [(3, 0)]),
  (1154, .iadd, 1155, 0, []),
  (1155, .iaload, 1156, 0, []),
  (1156, .invokevirtual 140, 1159, 0, []),
  (1159, .if_icmp .eq 222, 1162, 1381, []),
  (1162, .iconst 0, 1163, 0, [(0, 0)]),
  (1163, .ireturn, 1164, 0, []),
  (1164, .aload_n 1, 1165, 1, []),
  (1165, .aload_n 0, 1166, 0, []),
  (1166, .iload_n 3, 1167, 3, []),
  (1167, .iconst 1, 1168, 0, [(1, 0)]),
  (1168, .iadd, 1169, 0, []),
  (1169, .iaload, 1170, 0, []),
  (1170, .aload_n 0, 1171, 0, []),
  (1171, .iload_n 3, 1172, 3, []),
  (1172, .iconst 2, 1173, 0, [(2, 0)]),
  (1173, .iadd, 1174, 0, []),
  (1174, .iaload, 1175, 0, []),
  (1175, .aload_n 0, 1176, 0, []),
  (1176, .iload_n 3, 1177, 3, []),
  (1177, .iconst 3, 1178, 0, [(3, 0)]),
  (1178, .iadd, 1179, 0, []),
  (1179, .iaload, 1180, 0, []),
  (1180, .aload_n 0, 1181, 0, []),
  (1181, .iload_n 3, 1182, 3, []),
  (1182, .iconst 4, 1183, 0, [(4, 0)]),
  (1183, .iadd, 1184, 0, [])]
def pL_17 : List PE := [(1184, .iaload, 1185, 0, []),
  (1185, .aload_n 0, 1186, 0, []),
  (1186, .iload_n 3, 1187, 3, []),
  (1187, .iconst 5, 1188, 0, [(5, 0)]),
  (1188, .iadd, 1189, 0, []),
  (1189, .iaload, 1190, 0, []),
  (1190, .invokevirtual 141, 1193, 0, []),
  (1193, .aload_n 2, 1194, 2, []),
  (1194, .aload_n 0, 1195, 0, []),
  (1195, .iload_n 3, 1196, 3, []),
  (1196, .iconst 1, 1197, 0, [(1, 0)]),
  (1197, .iadd, 1198, 0, []),
  (1198, .iaload, 1199, 0, []),
  (1199, .aload_n 0, 1200, 0, []),
  (1200, .iload_n 3, 1201, 3, []),
  (1201, .iconst 2, 1202, 0, [(2, 0)]),
  (1202, .iadd, 1203, 0, []),
  (1203, .iaload, 1204, 0, []),
  (1204, .aload_n 0, 1205, 0, []),
  (1205, .iload_n 3, 1206, 3, []),
  (1206, .iconst 3, 1207, 0, [(3, 0)]),
  (1207, .iadd, 1208, 0, []),
  (1208, .iaload, 1209, 0, []),
  (1209, .aload_n 0, 1210, 0, []),
  (1210, .iload_n 3, 1211, 3, []),
  (1211, .iconst 4, 1212, 0, [(4, 0)]),
  (1212, .iadd, 1213, 0, []),
  (1213, .iaload, 1214, 0, []),
  (1214, .aload_n 0, 1215, 0, []),
  (1215, .iload_n 3, 1216, 3, []),
  (1216, .iconst 5, 1217, 0, [(5, 0)]),
  (1217, .iadd, 1218, 0, []),
  (1218, .iaload, 1219, 0, []),
  (1219, .invokevirtual 144, 1222, 0, []),
  (1222, .if_icmp .eq 159, 1225, 1381, []),
  (1225, .iconst 0, 1226, 0, [(0, 0)]),
  (1226, .ireturn, 1227, 0, []),
  (1227, .aload_n 1, 1228, 1, []),
  (1228, .aload_n 0, 1229, 0, []),
  (1229, .iload_n 3, 1230, 3, []),
  (1230, .iconst 1, 1231, 0, [(1, 0)]),
  (1231, .iadd, 1232, 0, []),
  (1232, .iaload, 1233, 0, []),
  (1233, .invokevirtual 145, 1236, 0, []),
  (1236, .aload_n 2, 1237, 2, []),
  (1237, .aload_n 0, 1238, 0, []),
  (1238, .iload_n 3, 1239, 3, []),
  (1239, .iconst 1, 1240, 0, [(1, 0)])]
def pL_18 : List PE := [(1240, .iadd, 1241, 0, []),
  (1241, .iaload, 1242, 0, []),
  (1242, .invokevirtual 148, 1245, 0, []),
  (1245, .if_icmp .eq 136, 1248, 1381, []),
  (1248, .iconst 0, 1249, 0, [(0, 0)]),
  (1249, .ireturn, 1250, 0, []),
  (1250, .aload_n 1, 1251, 1, []),
  (1251, .aload_n 0, 1252, 0, []),
  (1252, .iload_n 3, 1253, 3, []),
  (1253, .iconst 1, 1254, 0, [(1, 0)]),
  (1254, .iadd, 1255, 0, []),
  (1255, .iaload, 1256, 0, []),
  (1256, .invokevirtual 149, 1259, 0, []),
  (1259, .aload_n 2, 1260, 2, []),
  (1260, .aload_n 0, 1261, 0, []),
  (1261, .iload_n 3, 1262, 3, []),
  (1262, .iconst 1, 1263, 0, [(1, 0)]),
  (1263, .iadd, 1264, 0, []),
  (1264, .iaload, 1265, 0, []),
  (1265, .invokevirtual 152, 1268, 0, []),
  (1268, .if_icmp .eq 113, 1271, 1381, []),
  (1271, .iconst 0, 1272, 0, [(0, 0)]),
  (1272, .ireturn, 1273, 0, []),
  (1273, .aload_n 1, 1274, 1, []),
  (1274, .invokevirtual 153, 1277, 0, []),
  (1277, .aload_n 2, 1278, 2, []),
  (1278, .invokevirtual 156, 1281, 0, []),
  (1281, .if_icmp .eq 100, 1284, 1381, []),
  (1284, .iconst 0, 1285, 0, [(0, 0)]),
  (1285, .ireturn, 1286, 0, []),
  (1286, .aload_n 1, 1287, 1, []),
  (1287, .invokevirtual 157, 1290, 0, []),
  (1290, .aload_n 2, 1291, 2, []),
  (1291, .invokevirtual 160, 1294, 0, []),
  (1294, .if_icmp .eq 87, 1297, 1381, []),
  (1297, .iconst 0, 1298, 0, [(0, 0)]),
  (1298, .ireturn, 1299, 0, []),
  (1299, .aload_n 1, 1300, 1, []),
  (1300, .aload_n 0, 1301, 0, []),
  (1301, .iload_n 3, 1302, 3, []),
  (1302, .iconst 1, 1303, 0, [(1, 0)]),
  (1303, .iadd, 1304, 0, []),
  (1304, .iaload, 1305, 0, []),
  (1305, .invokevirtual 161, 1308, 0, []),
  (1308, .aload_n 2, 1309, 2, []),
  (1309, .aload_n 0, 1310, 0, []),
  (1310, .iload_n 3, 1311, 3, []),
  (1311, .iconst 1, 1312, 0, [(1, 0)])]
def pL_19 : List PE := [(1312, .iadd, 1313, 0, []),
  (1313, .iaload, 1314, 0, []),
  (1314, .invokevirtual 164, 1317, 0, []),
  (1317, .if_icmp .eq 64, 1320, 1381, []),
  (1320, .iconst 0, 1321, 0, [(0, 0)]),
  (1321, .ireturn, 1322, 0, []),
  (1322, .aload_n 1, 1323, 1, []),
  (1323, .invokevirtual 165, 1326, 0, []),
  (1326, .aload_n 2, 1327, 2, []),
  (1327, .invokevirtual 168, 1330, 0, []),
  (1330, .if_icmp .eq 51, 1333, 1381, []),
  (1333, .iconst 0, 1334, 0, [(0, 0)]),
  (1334, .ireturn, 1335, 0, []),
  (1335, .aload_n 1, 1336, 1, []),
  (1336, .aload_n 0, 1337, 0, []),
  (1337, .iload_n 3, 1338, 3, []),
  (1338, .iconst 1, 1339, 0, [(1, 0)]),
  (1339, .iadd, 1340, 0, []),
  (1340, .iaload, 1341, 0, []),
  (1341, .invokevirtual 169, 1344, 0, []),
  (1344, .aload_n 2, 1345, 2, []),
  (1345, .aload_n 0, 1346, 0, []),
  (1346, .iload_n 3, 1347, 3, []),
  (1347, .iconst 1, 1348, 0, [(1, 0)]),
  (1348, .iadd, 1349, 0, []),
  (1349, .iaload, 1350, 0, []),
  (1350, .invokevirtual 172, 1353, 0, []),
  (1353, .if_icmp .eq 28, 1356, 1381, []),
  (1356, .iconst 0, 1357, 0, [(0, 0)]),
  (1357, .ireturn, 1358, 0, []),
  (1358, .aload_n 1, 1359, 1, []),
  (1359, .aload_n 0, 1360, 0, []),
  (1360, .iload_n 3, 1361, 3, []),
  (1361, .iconst 1, 1362, 0, [(1, 0)]),
  (1362, .iadd, 1363, 0, []),
  (1363, .iaload, 1364, 0, []),
  (1364, .invokevirtual 173, 1367, 0, []),
  (1367, .aload_n 2, 1368, 2, []),
  (1368, .aload_n 0, 1369, 0, []),
  (1369, .iload_n 3, 1370, 3, []),
  (1370, .iconst 1, 1371, 0, [(1, 0)]),
  (1371, .iadd, 1372, 0, []),
  (1372, .iaload, 1373, 0, []),
  (1373, .invokevirtual 176, 1376, 0, []),
  (1376, .if_icmp .eq 5, 1379, 1381, []),
  (1379, .iconst 0, 1380, 0, [(0, 0)]),
  (1380, .ireturn, 1381, 0, []),
  (1381, .iinc 3 6, 1384, 3, [(6, 0)])]
def pL_20 : List PE := [(1384, .goto (-1366), 1387, 18, []),
  (1387, .iconst 1, 1388, 0, [(1, 0)]),
  (1388, .ireturn, 1389, 0, [])]
def p_Law_law : List PE := pL_0 ++ (pL_1 ++ (pL_2 ++ (pL_3 ++ (pL_4 ++ (pL_5 ++ (pL_6 ++ (pL_7 ++ (pL_8 ++ (pL_9 ++ (pL_10 ++ (pL_11 ++ (pL_12 ++ (pL_13 ++ (pL_14 ++ (pL_15 ++ (pL_16 ++ (pL_17 ++ (pL_18 ++ (pL_19 ++ (pL_20))))))))))))))))))))
def m_Law_law : MI := (⟨"HandOverHorseLaw", "law", "([I)Z"⟩, code, 4, (some .boolean), p_Law_law, 13)
end
section
/-! An abstract machine over the kit: cells by numbers, ints apart from references; one step of the plain instructions is a function. -/
abbrev xG : Type := va_G × (Nat → ClassId) × Nat × (Nat → Nat) × Heap
/-- where a cell stands: new ones behind the heap's old end, old ones (from 1000000 on) by a table -/
def xmu (G : xG) (r : Nat) : Nat := if r < 1000000 then G.2.2.1 + r else G.2.2.2.1 (r - 1000000)
def xv (G : xG) : Value → Value
  | .ref r => .ref (xmu G r)
  | v => v
def xA (G : xG) : Nat → Prop := fun q => G.2.2.1 ≤ q
/-- the types of the fields, by classes -/
def xty (c : Nat) : Nat → FieldType := match c with
  | 0 => xt0 | 1 => xt1 | 2 => xt2 | 3 => xt3 | 4 => xt4 | 5 => xt5 | 6 => xt6 | 7 => xt7 | 8 => xt8 | 9 => xt9 | 10 => xt10 | 11 => xt11 | _ => xt12
def xN (c : Nat) : Nat := match c with
  | 7 => 8 | 8 => 13 | 9 => 8 | 10 => 8 | 11 => 10 | 12 => 27 | _ => 7
def xfv (G : xG) (I : Nat → Nat → Int32) (P : Nat → Nat → Option Nat) (c r j : Nat) : Value := match xty c j with
  | .int => .int (I r j)
  | .boolean => .int (I r j)
  | _ => va_rf ((P r j).map (xmu G))
/-- a cell, by its kind: 0 to 12 an object of that class, 13 int[], 14 boolean[], else an array of references -/
def xE (G : xG) (K : Nat → Nat × Nat) (I : Nat → Nat → Int32) (P : Nat → Nat → Option Nat) (r : Nat) : va_E :=
  if (K r).1 < 13 then .inr ((K r).1, (List.range (xN (K r).1)).map (xfv G I P (K r).1 r))
  else if (K r).1 < 15 then .inl (G.2.1 (K r).1, (K r).2, .inl (I r))
  else .inl (G.2.1 (K r).1, (K r).2, .inr (.inr (.inr (.inr (fun j => (P r j).map (xmu G))))))
def xL (G : xG) (n : Nat) (K : Nat → Nat × Nat) (I : Nat → Nat → Int32) (P : Nat → Nat → Option Nat) : va_W := (List.range n).map (fun r => (G.2.2.1 + r, xE G K I P r))
/-- an old int array, as far as it is known -/
def xOA (o : Option Cell) (w : Nat) (f : Nat → Int32) : Prop := ∃ cell : Cell, o = some cell ∧ cell.vm ≠ .unknown ∧ w ≤ cell.slots.size ∧ cell.slots.size.toInt32 = Int32.ofNat w ∧ ∀ q : Nat, q < w → cell.slots[q]? = some (.int (f q))
/-- the heap holds the cells; what was there before stands as it was; two old int arrays are known -/
def xR (G : xG) (n : Nat) (K : Nat → Nat × Nat) (I : Nat → Nat → Int32) (P : Nat → Nat → Option Nat) (H : Heap) : Prop :=
  H.size = G.2.2.1 + n ∧ va_P G.1 xCl (xL G n K I P) H ∧ (∀ q : Nat, q < G.2.2.1 → H[q]? = G.2.2.2.2[q]?) ∧ n < 1000000 ∧ G.2.2.2.2.size = G.2.2.1 ∧
  ∀ j : Nat, j < 2 → G.2.2.2.1 j < G.2.2.1 ∧ K (1000000 + j) = (13, (K (1000000 + j)).2) ∧ xOA (H[G.2.2.2.1 j]?) (K (1000000 + j)).2 (I (1000000 + j))
def xTys (G : xG) : List (ClassId × FieldType) := [(G.2.1 13, .int), (G.2.1 14, .boolean), (G.2.1 15, .object "HandOverHorse$Stroke"), (G.2.1 16, .object "HandOverHorse$Text"), (G.2.1 17, .array .int)]
/-- what the start's statics and constants are -/
def xZ (G : xG) (U : State) : Prop := va_Z "HandOverHorse" "MOST_OF_PART" "[I" (.ref (G.2.2.2.1 1)) (xA G) U G.2.2.2.2 ∧ va_Z "java/lang/String" "COMPACT_STRINGS" "Z" (.int 1) (xA G) U G.2.2.2.2 ∧
  vk_R "HandOverHorse$Text" 24 "" (G.2.2.2.1 2) U ∧ vk_R "HandOverHorse$Wall" 169 "cmkh" (G.2.2.2.1 3) U ∧ vk_R "HandOverHorse$Wall" 171 "wkc" (G.2.2.2.1 4) U ∧
  vk_S 2 [4, 3] [[99, 109, 107, 104], [119, 107, 99]] (fun i => G.2.2.2.1 (3 + i)) (fun i => G.2.2.2.1 (5 + i)) (xA G) U G.2.2.2.2
def xAA (U : State) : Prop := (Cond.arrayOver (.array .int)).before #[] U = true
def xOI (G : xG) (U : State) : Prop := ∀ j : Nat, j < 2 → ∃ cell : Cell, G.2.2.2.2[G.2.2.2.1 j]? = some cell ∧ U.isArrayOf cell .int
theorem xOI.moved {G : xG} {u U : State} (hvm : u.vm.Alike U.vm) (h : xOI G u) : xOI G U := fun j hj => by
  obtain ⟨c, h1, h2⟩ := h j hj
  exact ⟨c, h1, State.isArrayOf_alike hvm h2⟩
def xK (G : xG) (U : State) : Prop := va_K G.1 xCl (xTys G) U ∧ xZ G U ∧ va_AO "HandOverHorse$Stroke" U ∧ va_AO "HandOverHorse$Text" U ∧ xAA U ∧ xOI G U
theorem xZ.warm {G : xG} {s U : State} (hW : s.WarmedH U.vm) (h : xZ G s) : xZ G U :=
  ⟨h.1.moved hW.alike, h.2.1.moved hW.alike, h.2.2.1.warm hW, h.2.2.2.1.warm hW, h.2.2.2.2.1.warm hW, h.2.2.2.2.2.moved hW.alike⟩
theorem xZ.same {G : xG} {u U : State} (hv : U.vm = u.vm) (h : xZ G u) : xZ G U := by
  have ha : u.vm.Alike U.vm := by rw [hv]; exact Vm.Alike.refl _
  exact ⟨h.1.moved ha, h.2.1.moved ha, h.2.2.1.same hv, h.2.2.2.1.same hv, h.2.2.2.2.1.same hv, h.2.2.2.2.2.moved ha⟩
theorem xK.warm {G : xG} {s U : State} (hW : s.WarmedH U.vm) (h : xK G s) : xK G U :=
  ⟨h.1.moved hW.alike, h.2.1.warm hW, h.2.2.1.moved hW.alike, h.2.2.2.1.moved hW.alike, over_moved hW.alike h.2.2.2.2.1, h.2.2.2.2.2.moved hW.alike⟩
theorem xK.same {G : xG} {u U : State} (hv : U.vm = u.vm) (h : xK G u) : xK G U := by
  have ha : u.vm.Alike U.vm := by rw [hv]; exact Vm.Alike.refl _
  exact ⟨h.1.moved ha, h.2.1.same hv, h.2.2.1.moved ha, h.2.2.2.1.moved ha, over_moved ha h.2.2.2.2.1, h.2.2.2.2.2.moved ha⟩
/-! the programs -/
def xlook : List PE → Nat → Option (Instr × Nat × Nat × List (Int32 × Nat))
  | [], _ => none
  | e :: l, pc => bif Nat.beq e.1 pc then some e.2 else xlook l pc
def xlen : Instr → Nat
  | .bipush _ | .ldc _ | .iload _ | .istore _ | .aload _ | .astore _ | .lload _ | .lstore _ | .newarray _ => 2
  | .sipush _ | .ldc_w _ | .ldc2_w _ | .iinc _ _ | .ifCond _ _ | .if_icmp _ _ | .goto _ | .getfield _ | .putfield _ | .getstatic _ | .invokevirtual _ | .invokespecial _ | .invokestatic _ | .new _ | .anewarray _ | .ifnull _ | .ifnonnull _ | .if_acmp _ _ | .checkcast _ | .instanceof _ => 3
  | .multianewarray _ _ => 4
  | .tableswitch _ _ _ _ => 0
  | .lookupswitch _ _ => 0
  | _ => 1
def xtsOK (pc : Nat) : Int → List Int → List (Int32 × Nat) → Bool
  | _, [], [] => true
  | lo, o :: os, (k, t) :: cs => decide (k.toInt = lo) && (decide ((pc : Int) + o = (t : Int)) && xtsOK pc (lo + 1) os cs)
  | _, _, _ => false
def xlsOK (pc : Nat) : List (Int × Int) → List (Int32 × Nat) → Bool
  | [], [] => true
  | (k', o) :: ps, (k, t) :: cs => decide (k.toInt = k') && (decide ((pc : Int) + o = (t : Int)) && xlsOK pc ps cs)
  | _, _ => false
def xopOK (own : String) (pc : Nat) (ins : Instr) (a : Nat) (cs : List (Int32 × Nat)) : Bool := match ins with
  | .iconst n => match cs with | (v, _) :: _ => decide (Int32.ofInt n = v) | _ => false
  | .bipush n => match cs with | (v, _) :: _ => decide ((Int8.ofInt n).toInt32 = v) | _ => false
  | .sipush n => match cs with | (v, _) :: _ => decide ((Int16.ofInt n).toInt32 = v) | _ => false
  | .lconst n => decide ((n : Nat) = a)
  | .ldc i => match cs with | (v, _) :: _ => decide (lw_tbl[a]? = some (.constant own i v)) | _ => true
  | .ldc_w i => match cs with | (v, _) :: _ => decide (lw_tbl[a]? = some (.constant own i v)) | _ => true
  | .ldc2_w i => match cs with | (_, q) :: _ => decide (lw_tbl[q]? = some (.constantLong own i (Int64.ofNat a))) | _ => false
  | .iload i | .istore i | .aload i | .astore i | .lload i | .lstore i => decide (i = a)
  | .iload_n k | .istore_n k | .aload_n k | .astore_n k | .lload_n k | .lstore_n k => decide ((k : Nat) = a)
  | .iinc i n => match cs with | (v, _) :: _ => decide (i = a) && decide (Int32.ofInt n = v) | _ => false
  | .ifCond _ o | .if_icmp _ o | .goto o => decide ((pc : Int) + o = (a : Int))
  | .tableswitch d lo hi offs => decide ((pc : Int) + d = (a : Int)) && (decide (hi = lo + (offs.toList.length : Int) - 1) && xtsOK pc lo offs.toList cs)
  | .lookupswitch d ps => decide ((pc : Int) + d = (a : Int)) && ((ps.toList.zip (ps.toList.drop 1)).all (fun (a, next) => a.1 < next.1) && xlsOK pc ps.toList cs)
  | _ => true
def xpeOK (own : String) (cc : ByteArray) (e : PE) : Bool :=
  decide (decode cc e.1 = .ok (e.2.1, e.2.2.1 - e.1)) && (decide (e.1 < e.2.2.1) && ((decide (xlen e.2.1 = 0) || decide (e.2.2.1 = e.1 + xlen e.2.1)) && xopOK own e.1 e.2.1 e.2.2.2.1 e.2.2.2.2))
def xpOK (Y : MI) : Bool := Y.2.2.2.2.1.all (xpeOK Y.1.cls Y.2.1)
theorem xlook_mem {L : List PE} {pc : Nat} {e : Instr × Nat × Nat × List (Int32 × Nat)} (h : xlook L pc = some e) : (pc, e) ∈ L := by
  induction L with
  | nil => cases h
  | cons q L ih =>
    unfold xlook at h
    by_cases hb : Nat.beq q.1 pc = true
    · rw [hb] at h
      cases h
      have := Nat.eq_of_beq_eq_true hb
      subst this
      exact List.mem_cons_self
    · have hb' : Nat.beq q.1 pc = false := (Bool.not_eq_true _).mp hb
      rw [hb'] at h
      exact List.mem_cons_of_mem _ (ih h)
theorem xdec {Y : MI} (hY : xpOK Y = true) {pc nx a : Nat} {ins : Instr} {cs : List (Int32 × Nat)} (h : xlook Y.2.2.2.2.1 pc = some (ins, nx, a, cs)) :
    decode Y.2.1 pc = .ok (ins, nx - pc) ∧ pc < nx ∧ (xlen ins = 0 ∨ nx = pc + xlen ins) ∧ xopOK Y.1.cls pc ins a cs = true := by
  have h1 := List.all_eq_true.mp hY _ (xlook_mem h)
  simp only [xpeOK, Bool.and_eq_true, Bool.or_eq_true, decide_eq_true_eq] at h1
  exact h1
/-! the locals and the plain step -/
def xset : List Value → Nat → Value → List Value
  | [], _, _ => []
  | _ :: l, 0, v => v :: l
  | a :: l, n + 1, v => a :: xset l n v
def xget : List Value → Nat → Value
  | [], _ => .null
  | a :: _, 0 => a
  | _ :: l, n + 1 => xget l n
def xfree (lv : List Value) (i : Nat) : Bool := match i with
  | 0 => true
  | j + 1 => match xget lv j with
    | .long _ => false
    | .double _ => false
    | _ => true
def xtsw (x : Int32) : List (Int32 × Nat) → Nat → Nat
  | [], d => d
  | (k, t) :: r, d => if x = k then t else xtsw x r d
abbrev xO : Type := Option (Nat × List Value × List Value)
def xpush (nx : Nat) (lv : List Value) (cs : List (Int32 × Nat)) (st : List Value) : xO := match cs with
  | (v, _) :: _ => some (nx, lv, .int v :: st)
  | _ => none
def xbin (nx : Nat) (lv : List Value) (f : Int32 → Int32 → Int32) (st : List Value) : xO := match st with
  | .int y :: .int x :: r => some (nx, lv, .int (f x y) :: r)
  | _ => none
def xun (nx : Nat) (lv : List Value) (f : Int32 → Int32) (st : List Value) : xO := match st with
  | .int x :: r => some (nx, lv, .int (f x) :: r)
  | _ => none
def xlbin (nx : Nat) (lv : List Value) (f : Int64 → Int64 → Int64) (st : List Value) : xO := match st with
  | .long y :: .long x :: r => some (nx, lv, .long (f x y) :: r)
  | _ => none
def xlsh (nx : Nat) (lv : List Value) (f : Int64 → Int32 → Int64) (st : List Value) : xO := match st with
  | .int y :: .long x :: r => some (nx, lv, .long (f x y) :: r)
  | _ => none
def xildi (nx : Nat) (lv : List Value) (a : Nat) (st : List Value) : xO := match xget lv a with
  | .int x => some (nx, lv, .int x :: st)
  | _ => none
def xildl (nx : Nat) (lv : List Value) (a : Nat) (st : List Value) : xO := match xget lv a with
  | .long x => some (nx, lv, .long x :: st)
  | _ => none
def xilda (nx : Nat) (lv : List Value) (a : Nat) (st : List Value) : xO := match xget lv a with
  | .ref x => some (nx, lv, .ref x :: st)
  | _ => none
def xisti (nL nx : Nat) (lv : List Value) (a : Nat) (st : List Value) : xO := match st with
  | .int x :: r => bif Nat.blt a nL && xfree lv a then some (nx, xset lv a (.int x), r) else none
  | _ => none
def xista (nL nx : Nat) (lv : List Value) (a : Nat) (st : List Value) : xO := match st with
  | .ref x :: r => bif Nat.blt a nL && xfree lv a then some (nx, xset lv a (.ref x), r) else none
  | _ => none
def xistl (nL nx : Nat) (lv : List Value) (a : Nat) (st : List Value) : xO := match st with
  | .long x :: r => bif Nat.blt (a + 1) nL && xfree lv a then some (nx, xset (xset lv a (.long x)) (a + 1) .null, r) else none
  | _ => none
def xinc (nL nx : Nat) (lv : List Value) (a : Nat) (cs : List (Int32 × Nat)) (st : List Value) : xO := match cs with
  | (v, _) :: _ => match xget lv a with
    | .int x => bif Nat.blt a nL && xfree lv a then some (nx, xset lv a (.int (x + v)), st) else none
    | _ => none
  | _ => none
def xdup (nx : Nat) (lv : List Value) (st : List Value) : xO := match st with
  | .int x :: r => some (nx, lv, .int x :: .int x :: r)
  | .ref x :: r => some (nx, lv, .ref x :: .ref x :: r)
  | _ => none
def xdup2 (nx : Nat) (lv : List Value) (st : List Value) : xO := match st with
  | .int y :: .int x :: r => some (nx, lv, .int y :: .int x :: .int y :: .int x :: r)
  | .int y :: .ref x :: r => some (nx, lv, .int y :: .ref x :: .int y :: .ref x :: r)
  | _ => none
def xpop (nx : Nat) (lv : List Value) (st : List Value) : xO := match st with
  | .int _ :: r => some (nx, lv, r)
  | .ref _ :: r => some (nx, lv, r)
  | _ => none
def xif (nx a : Nat) (lv : List Value) (cd : ClassFile.Cond) (st : List Value) : xO := match st with
  | .int x :: r => match cd with
    | .eq => some (if x = 0 then a else nx, lv, r)
    | .ne => some (if x = 0 then nx else a, lv, r)
    | .lt => some (if x < 0 then a else nx, lv, r)
    | .ge => some (if 0 ≤ x then a else nx, lv, r)
    | .gt => some (if 0 < x then a else nx, lv, r)
    | .le => some (if x ≤ 0 then a else nx, lv, r)
  | _ => none
def xicmp (nx a : Nat) (lv : List Value) (cd : ClassFile.Cond) (st : List Value) : xO := match st with
  | .int y :: .int x :: r => match cd with
    | .eq => some (if x = y then a else nx, lv, r)
    | .ne => some (if x = y then nx else a, lv, r)
    | .lt => some (if x < y then a else nx, lv, r)
    | .ge => some (if y ≤ x then a else nx, lv, r)
    | .gt => some (if y < x then a else nx, lv, r)
    | .le => some (if x ≤ y then a else nx, lv, r)
  | _ => none
def xsw (a : Nat) (cs : List (Int32 × Nat)) (lv : List Value) (st : List Value) : xO := match st with
  | .int x :: r => some (xtsw x cs a, lv, r)
  | _ => none
def xins (nL : Nat) (ins : Instr) (nx a : Nat) (cs : List (Int32 × Nat)) (lv st : List Value) : xO := match ins with
  | .iconst _ => xpush nx lv cs st
  | .bipush _ => xpush nx lv cs st
  | .sipush _ => xpush nx lv cs st
  | .ldc _ => xpush nx lv cs st
  | .ldc_w _ => xpush nx lv cs st
  | .lconst _ => some (nx, lv, .long (Int64.ofNat a) :: st)
  | .ldc2_w _ => some (nx, lv, .long (Int64.ofNat a) :: st)
  | .iload _ => xildi nx lv a st
  | .iload_n _ => xildi nx lv a st
  | .lload _ => xildl nx lv a st
  | .lload_n _ => xildl nx lv a st
  | .aload _ => xilda nx lv a st
  | .aload_n _ => xilda nx lv a st
  | .istore _ => xisti nL nx lv a st
  | .istore_n _ => xisti nL nx lv a st
  | .lstore _ => xistl nL nx lv a st
  | .astore _ => xista nL nx lv a st
  | .astore_n _ => xista nL nx lv a st
  | .iinc _ _ => xinc nL nx lv a cs st
  | .iadd => xbin nx lv (fun x y => x + y) st
  | .isub => xbin nx lv (fun x y => x - y) st
  | .imul => xbin nx lv (fun x y => x * y) st
  | .iand => xbin nx lv (fun x y => x &&& y) st
  | .ior => xbin nx lv (fun x y => x ||| y) st
  | .ixor => xbin nx lv (fun x y => x ^^^ y) st
  | .ishl => xbin nx lv (fun x y => x <<< (y &&& 31)) st
  | .ishr => xbin nx lv (fun x y => x >>> (y &&& 31)) st
  | .iushr => xbin nx lv (fun x y => (x.toUInt32 >>> (y.toUInt32 &&& Int32.toUInt32 31)).toInt32) st
  | .ineg => xun nx lv (fun x => -x) st
  | .i2b => xun nx lv (fun x => x.toInt8.toInt32) st
  | .i2s => xun nx lv (fun x => x.toInt16.toInt32) st
  | .i2c => xun nx lv (fun x => (x.toUInt32 % 65536).toInt32) st
  | .i2l => match st with | .int x :: r => some (nx, lv, .long x.toInt64 :: r) | _ => none
  | .l2i => match st with | .long x :: r => some (nx, lv, .int x.toInt32 :: r) | _ => none
  | .land => xlbin nx lv (fun x y => x &&& y) st
  | .lor => xlbin nx lv (fun x y => x ||| y) st
  | .lshl => xlsh nx lv (fun x y => x <<< (y.toInt64 &&& 63)) st
  | .lshr => xlsh nx lv (fun x y => x >>> (y.toInt64 &&& 63)) st
  | .lushr => xlsh nx lv (fun x y => (x.toUInt64 >>> (y.toInt64.toUInt64 &&& Int64.toUInt64 63)).toInt64) st
  | .lcmp => match st with | .long y :: .long x :: r => some (nx, lv, .int (lg_cmp x y) :: r) | _ => none
  | .dup => xdup nx lv st
  | .dup2 => xdup2 nx lv st
  | .pop => xpop nx lv st
  | .ifCond cd _ => xif nx a lv cd st
  | .if_icmp cd _ => xicmp nx a lv cd st
  | .goto _ => some (a, lv, st)
  | .tableswitch _ _ _ _ => xsw a cs lv st
  | .lookupswitch _ _ => xsw a cs lv st
  | _ => none
def xstep (Y : MI) (pc : Nat) (lv st : List Value) : xO := match xlook Y.2.2.2.2.1 pc with
  | some (ins, nx, a, cs) => xins Y.2.2.1 ins nx a cs lv st
  | none => none
/-! what the machine's locals hold -/
def xlv (G : xG) (ls : Array Slot) (nL : Nat) (lv : List Value) : Prop := ls.size = nL ∧ lv_wf ls ∧ ∀ i : Nat, xget lv i ≠ .null → ls[i]? = some (.val (xv G (xget lv i)))
theorem xget_set {lv : List Value} {a i : Nat} {v : Value} : xget (xset lv a v) i = if i = a ∧ a < lv.length then v else xget lv i := by
  induction lv generalizing a i with
  | nil => simp [xset, xget]
  | cons b lv ih =>
    cases a with
    | zero =>
      cases i with
      | zero => simp [xset, xget]
      | succ i => simp [xset, xget]
    | succ a =>
      cases i with
      | zero => simp [xset, xget]
      | succ i => simp [xset, xget, ih]
theorem xget_lt {lv : List Value} {i : Nat} (h : xget lv i ≠ .null) : i < lv.length := by
  induction lv generalizing i with
  | nil => exact absurd rfl h
  | cons b lv ih =>
    cases i with
    | zero => simp
    | succ i => have := ih (i := i) h; simp; omega
def xpl (G : xG) (lv : List Value) : List (Nat × Value) := ((List.range lv.length).filter (fun i => decide (xget lv i ≠ .null))).map (fun i => (i, xv G (xget lv i)))
theorem xpl_mem {G : xG} {lv : List Value} {q : Nat × Value} : q ∈ xpl G lv ↔ ∃ i, xget lv i ≠ .null ∧ q = (i, xv G (xget lv i)) := by
  unfold xpl
  rw [List.mem_map]
  constructor
  · rintro ⟨i, hi, rfl⟩
    have h2 := (List.mem_filter.mp hi).2
    exact ⟨i, by simpa using h2, rfl⟩
  · rintro ⟨i, hi, rfl⟩
    exact ⟨i, List.mem_filter.mpr ⟨List.mem_range.mpr (xget_lt hi), by simpa using hi⟩, rfl⟩
theorem xlv.has {G : xG} {ls : Array Slot} {nL : Nat} {lv : List Value} (h : xlv G ls nL lv) : lv_has ls nL (xpl G lv) := by
  refine ⟨h.1, h.2.1, fun q hq => ?_⟩
  obtain ⟨i, hi, rfl⟩ := xpl_mem.mp hq
  exact h.2.2 i hi
theorem xv_cat (G : xG) (v : Value) : (xv G v).category = v.category := by cases v <;> rfl
theorem xlv.put1 {G : xG} {ls : Array Slot} {nL a : Nat} {lv : List Value} {v : Value} (hf : xfree lv a = true) (h : lv_has ls nL ((a, xv G v) :: (xpl G lv).filter (fun q => !(q.1 == a) && !(q.1 + 1 == a && q.2.category == 2)))) : xlv G ls nL (xset lv a v) := by
  refine ⟨h.1, h.2.1, fun i hi => ?_⟩
  rw [xget_set] at hi ⊢
  by_cases hc : i = a ∧ a < lv.length
  · rw [if_pos hc] at hi ⊢
    rw [hc.1]
    exact h.2.2 _ List.mem_cons_self
  · rw [if_neg hc] at hi ⊢
    have hlt := xget_lt hi
    have hne : i ≠ a := fun e => hc ⟨e, by omega⟩
    refine h.2.2 (i, xv G (xget lv i)) (List.mem_cons_of_mem _ (List.mem_filter.mpr ⟨xpl_mem.mpr ⟨i, hi, rfl⟩, ?_⟩))
    have h2 : ¬ (i + 1 = a ∧ (xv G (xget lv i)).category = 2) := by
      rintro ⟨rfl, h3⟩
      rw [xv_cat] at h3
      simp only [xfree] at hf
      cases hx : xget lv i <;> rw [hx] at h3 hf <;> simp [Value.category] at h3 hf
    simp only [Bool.and_eq_true, Bool.not_eq_true', beq_eq_false_iff_ne, ne_eq, Bool.and_eq_false_iff]
    refine ⟨hne, ?_⟩
    by_cases h4 : i + 1 = a
    · exact Or.inr (fun h5 => h2 ⟨h4, h5⟩)
    · exact Or.inl h4
theorem xlv.put2 {G : xG} {ls : Array Slot} {nL a : Nat} {lv : List Value} {v : Value} (hf : xfree lv a = true) (h : lv_has ls nL ((a, xv G v) :: (xpl G lv).filter (fun q => !(q.1 == a) && (!(q.1 == a + 1) && !(q.1 + 1 == a && q.2.category == 2))))) : xlv G ls nL (xset (xset lv a v) (a + 1) .null) := by
  refine ⟨h.1, h.2.1, fun i hi => ?_⟩
  rw [xget_set] at hi ⊢
  by_cases hc1 : i = a + 1 ∧ a + 1 < (xset lv a v).length
  · rw [if_pos hc1] at hi
    exact absurd rfl hi
  rw [if_neg hc1] at hi ⊢
  have hl1 := xget_lt hi
  rw [xget_set] at hi ⊢
  by_cases hc : i = a ∧ a < lv.length
  · rw [if_pos hc] at hi ⊢
    rw [hc.1]
    exact h.2.2 _ List.mem_cons_self
  · rw [if_neg hc] at hi ⊢
    have hlt := xget_lt hi
    have hne : i ≠ a := fun e => hc ⟨e, by omega⟩
    have hne1 : i ≠ a + 1 := fun e => hc1 ⟨e, by omega⟩
    refine h.2.2 (i, xv G (xget lv i)) (List.mem_cons_of_mem _ (List.mem_filter.mpr ⟨xpl_mem.mpr ⟨i, hi, rfl⟩, ?_⟩))
    have h2 : ¬ (i + 1 = a ∧ (xv G (xget lv i)).category = 2) := by
      rintro ⟨rfl, h3⟩
      rw [xv_cat] at h3
      simp only [xfree] at hf
      cases hx : xget lv i <;> rw [hx] at h3 hf <;> simp [Value.category] at h3 hf
    simp only [Bool.and_eq_true, Bool.not_eq_true', beq_eq_false_iff_ne, ne_eq, Bool.and_eq_false_iff]
    refine ⟨hne, hne1, ?_⟩
    by_cases h4 : i + 1 = a
    · exact Or.inr (fun h5 => h2 ⟨h4, h5⟩)
    · exact Or.inl h4
/-! switches -/
theorem xts_spec {pc : Nat} {x : Int32} {d : Nat} : ∀ (os : List Int) (lo : Int) (cs : List (Int32 × Nat)), xtsOK pc lo os cs = true →
    ((x.toInt < lo ∨ lo + (os.length : Int) - 1 < x.toInt) ∧ xtsw x cs d = d) ∨ (¬ x.toInt < lo ∧ ¬ lo + (os.length : Int) - 1 < x.toInt ∧ ∃ o, os[(x.toInt - lo).toNat]? = some o ∧ (pc : Int) + o = (xtsw x cs d : Int)) := by
  intro os
  induction os with
  | nil =>
    intro lo cs h
    cases cs with
    | nil => exact Or.inl ⟨by simp; omega, rfl⟩
    | cons c cs => simp [xtsOK] at h
  | cons o os ih =>
    intro lo cs h
    cases cs with
    | nil => simp [xtsOK] at h
    | cons c cs =>
      obtain ⟨k, t⟩ := c
      simp only [xtsOK, Bool.and_eq_true, decide_eq_true_eq] at h
      obtain ⟨hk, ht, hr⟩ := h
      by_cases hx : x = k
      · subst hx
        refine Or.inr ⟨by omega, by simp only [List.length_cons]; omega, o, ?_, ?_⟩
        · rw [hk]; simp
        · simp [xtsw, ht]
      · have hne : x.toInt ≠ lo := fun e => hx (Int32.toInt_inj.mp (e.trans hk.symm))
        have hs : xtsw x ((k, t) :: cs) d = xtsw x cs d := by simp [xtsw, hx]
        rw [hs]
        rcases ih (lo + 1) cs hr with ⟨h1, h2⟩ | ⟨h1, h2, o', h3, h4⟩
        · refine Or.inl ⟨?_, h2⟩
          simp only [List.length_cons]
          omega
        · refine Or.inr ⟨by omega, by simp only [List.length_cons]; omega, o', ?_, h4⟩
          have : (x.toInt - lo).toNat = (x.toInt - (lo + 1)).toNat + 1 := by omega
          rw [this]
          simpa using h3
theorem xls_spec {pc : Nat} {x : Int32} {d : Int} {a : Nat} (ha : (pc : Int) + d = (a : Int)) : ∀ (ps : List (Int × Int)) (cs : List (Int32 × Nat)), xlsOK pc ps cs = true → (pc : Int) + Op.lookupswitch.offset ps d x.toInt = (xtsw x cs a : Int) := by
  intro ps
  induction ps with
  | nil =>
    intro cs h
    cases cs with
    | nil => simpa [xtsw, Op.lookupswitch.offset] using ha
    | cons c cs => simp [xlsOK] at h
  | cons q ps ih =>
    intro cs h
    obtain ⟨k', o⟩ := q
    cases cs with
    | nil => simp [xlsOK] at h
    | cons c cs =>
      obtain ⟨k, t⟩ := c
      simp only [xlsOK, Bool.and_eq_true, decide_eq_true_eq] at h
      obtain ⟨hk, ht, hr⟩ := h
      by_cases hx : x = k
      · subst hx
        rw [Op.lookupswitch.offset_cons, if_pos (by simpa using hk.symm)]
        simp [xtsw, ht]
      · rw [lv_osw hx hk, ih cs hr]
        simp [xtsw, hx]
end
section
/-! the abstract judgement: the machine, at pc with these locals and this stack, over a heap that holds these cells, comes to its end -/
abbrev xC : Type := Program × Launch × Env × Room × State × MethodId × Array Value × List Frame × Method × Code × (State → Prop)
def aW (G : xG) (X : xC) (Y : MI) (n : Nat) (K : Nat → Nat × Nat) (I : Nat → Nat → Int32) (P : Nat → Nat → Option Nat) (cells slots pc : Nat) (lv st : List Value) : Prop :=
  ∀ (H : Heap) (locs : List Loc) (ls : Array Slot), xR G n K I P H → (∀ q ∈ locs, xA G q.base) → xlv G ls Y.2.2.1 lv →
    W X.1 X.2.1 X.2.2.1 X.2.2.2.1 X.2.2.2.2.1 X.2.2.2.2.2.1 X.2.2.2.2.2.2.1 X.2.2.2.2.2.2.2.1 X.2.2.2.2.2.2.2.2.1 X.2.2.2.2.2.2.2.2.2.1 H locs cells slots X.2.2.2.2.2.2.2.2.2.2 (F0 X.2.2.2.2.2.1 pc ls (st.map (xv G)))
/-- what stands round a method's body: d frames' room -/
def xAmb (G : xG) (X : xC) (Y : MI) (d mc ms : Nat) : Prop :=
  X.1.tables.exec = Jvm.exec ∧ X.2.2.2.2.2.2.2.2.2.1.code = Y.2.1 ∧ X.2.2.2.2.2.2.2.2.2.1.maxLocals = Y.2.2.1 ∧ X.2.2.2.2.1.vm.findClass Y.1.cls = some X.2.2.2.2.2.1.cls ∧ (∀ w ∈ xw, w.before X.2.2.2.2.2.2.1 X.2.2.2.2.1 = true) ∧ xK G X.2.2.2.2.1 ∧
  d ≤ X.2.2.2.1.frames ∧ 64 * d ≤ X.2.2.2.1.locals ∧ mc ≤ X.2.2.2.1.cells ∧ ms ≤ X.2.2.2.1.slots ∧ X.2.2.2.2.2.2.2.2.1.name = Y.1.name
theorem xpush_some {nx : Nat} {lv st : List Value} {cs : List (Int32 × Nat)} {z : Nat × List Value × List Value} (h : xpush nx lv cs st = some z) : ∃ v t r, cs = (v, t) :: r ∧ z = (nx, lv, .int v :: st) := by
  unfold xpush at h; split at h
  · cases h; exact ⟨_, _, _, rfl, rfl⟩
  · cases h
theorem xbin_some {nx : Nat} {lv st : List Value} {f : Int32 → Int32 → Int32} {z : Nat × List Value × List Value} (h : xbin nx lv f st = some z) : ∃ x y r, st = .int y :: .int x :: r ∧ z = (nx, lv, .int (f x y) :: r) := by
  unfold xbin at h; split at h
  · cases h; exact ⟨_, _, _, rfl, rfl⟩
  · cases h
theorem xun_some {nx : Nat} {lv st : List Value} {f : Int32 → Int32} {z : Nat × List Value × List Value} (h : xun nx lv f st = some z) : ∃ x r, st = .int x :: r ∧ z = (nx, lv, .int (f x) :: r) := by
  unfold xun at h; split at h
  · cases h; exact ⟨_, _, rfl, rfl⟩
  · cases h
theorem xlbin_some {nx : Nat} {lv st : List Value} {f : Int64 → Int64 → Int64} {z : Nat × List Value × List Value} (h : xlbin nx lv f st = some z) : ∃ x y r, st = .long y :: .long x :: r ∧ z = (nx, lv, .long (f x y) :: r) := by
  unfold xlbin at h; split at h
  · cases h; exact ⟨_, _, _, rfl, rfl⟩
  · cases h
theorem xlsh_some {nx : Nat} {lv st : List Value} {f : Int64 → Int32 → Int64} {z : Nat × List Value × List Value} (h : xlsh nx lv f st = some z) : ∃ x y r, st = .int y :: .long x :: r ∧ z = (nx, lv, .long (f x y) :: r) := by
  unfold xlsh at h; split at h
  · cases h; exact ⟨_, _, _, rfl, rfl⟩
  · cases h
theorem xildi_some {nx a : Nat} {lv st : List Value} {z : Nat × List Value × List Value} (h : xildi nx lv a st = some z) : ∃ x, xget lv a = .int x ∧ z = (nx, lv, .int x :: st) := by
  unfold xildi at h; split at h
  · next x hx => cases h; exact ⟨x, hx, rfl⟩
  · cases h
theorem xildl_some {nx a : Nat} {lv st : List Value} {z : Nat × List Value × List Value} (h : xildl nx lv a st = some z) : ∃ x, xget lv a = .long x ∧ z = (nx, lv, .long x :: st) := by
  unfold xildl at h; split at h
  · next x hx => cases h; exact ⟨x, hx, rfl⟩
  · cases h
theorem xilda_some {nx a : Nat} {lv st : List Value} {z : Nat × List Value × List Value} (h : xilda nx lv a st = some z) : ∃ x, xget lv a = .ref x ∧ z = (nx, lv, .ref x :: st) := by
  unfold xilda at h; split at h
  · next x hx => cases h; exact ⟨x, hx, rfl⟩
  · cases h
theorem xbif {α : Type} {b c : Bool} {v z : α} (h : (bif b && c then some v else none) = some z) : b = true ∧ c = true ∧ z = v := by
  cases b <;> cases c <;> simp at h
  exact ⟨rfl, rfl, h.symm⟩
theorem xisti_some {nL nx a : Nat} {lv st : List Value} {z : Nat × List Value × List Value} (h : xisti nL nx lv a st = some z) : ∃ x r, st = .int x :: r ∧ a < nL ∧ xfree lv a = true ∧ z = (nx, xset lv a (.int x), r) := by
  unfold xisti at h; split at h
  · obtain ⟨h1, h2, h3⟩ := xbif h
    exact ⟨_, _, rfl, by simpa [Nat.blt_eq] using h1, h2, h3⟩
  · cases h
theorem xista_some {nL nx a : Nat} {lv st : List Value} {z : Nat × List Value × List Value} (h : xista nL nx lv a st = some z) : ∃ x r, st = .ref x :: r ∧ a < nL ∧ xfree lv a = true ∧ z = (nx, xset lv a (.ref x), r) := by
  unfold xista at h; split at h
  · obtain ⟨h1, h2, h3⟩ := xbif h
    exact ⟨_, _, rfl, by simpa [Nat.blt_eq] using h1, h2, h3⟩
  · cases h
theorem xistl_some {nL nx a : Nat} {lv st : List Value} {z : Nat × List Value × List Value} (h : xistl nL nx lv a st = some z) : ∃ x r, st = .long x :: r ∧ a + 1 < nL ∧ xfree lv a = true ∧ z = (nx, xset (xset lv a (.long x)) (a + 1) .null, r) := by
  unfold xistl at h; split at h
  · obtain ⟨h1, h2, h3⟩ := xbif h
    exact ⟨_, _, rfl, by simpa [Nat.blt_eq] using h1, h2, h3⟩
  · cases h
theorem xinc_some {nL nx a : Nat} {lv st : List Value} {cs : List (Int32 × Nat)} {z : Nat × List Value × List Value} (h : xinc nL nx lv a cs st = some z) : ∃ v t r x, cs = (v, t) :: r ∧ xget lv a = .int x ∧ a < nL ∧ xfree lv a = true ∧ z = (nx, xset lv a (.int (x + v)), st) := by
  unfold xinc at h; split at h
  · split at h
    · next x hx =>
      obtain ⟨h1, h2, h3⟩ := xbif h
      exact ⟨_, _, _, x, rfl, hx, by simpa [Nat.blt_eq] using h1, h2, h3⟩
    · cases h
  · cases h
theorem xdup_some {nx : Nat} {lv st : List Value} {z : Nat × List Value × List Value} (h : xdup nx lv st = some z) : ∃ v r, v.category = 1 ∧ st = v :: r ∧ z = (nx, lv, v :: v :: r) := by
  unfold xdup at h; split at h
  · cases h; exact ⟨_, _, rfl, rfl, rfl⟩
  · cases h; exact ⟨_, _, rfl, rfl, rfl⟩
  · cases h
theorem xdup2_some {nx : Nat} {lv st : List Value} {z : Nat × List Value × List Value} (h : xdup2 nx lv st = some z) : ∃ v w r, v.category = 1 ∧ w.category = 1 ∧ st = v :: w :: r ∧ z = (nx, lv, v :: w :: v :: w :: r) := by
  unfold xdup2 at h; split at h
  · cases h; exact ⟨_, _, _, rfl, rfl, rfl, rfl⟩
  · cases h; exact ⟨_, _, _, rfl, rfl, rfl, rfl⟩
  · cases h
theorem xpop_some {nx : Nat} {lv st : List Value} {z : Nat × List Value × List Value} (h : xpop nx lv st = some z) : ∃ v r, v.category = 1 ∧ st = v :: r ∧ z = (nx, lv, r) := by
  unfold xpop at h; split at h
  · cases h; exact ⟨_, _, rfl, rfl, rfl⟩
  · cases h; exact ⟨_, _, rfl, rfl, rfl⟩
  · cases h
theorem xsw_some {a : Nat} {cs : List (Int32 × Nat)} {lv st : List Value} {z : Nat × List Value × List Value} (h : xsw a cs lv st = some z) : ∃ x r, st = .int x :: r ∧ z = (xtsw x cs a, lv, r) := by
  unfold xsw at h; split at h
  · cases h; exact ⟨_, _, rfl, rfl⟩
  · cases h
theorem xif_some {nx a : Nat} {cd : ClassFile.Cond} {lv st : List Value} {z : Nat × List Value × List Value} (h : xif nx a lv cd st = some z) : ∃ x r, st = .int x :: r ∧ xif nx a lv cd (.int x :: r) = some z := by
  unfold xif at h; split at h
  · next x r => exact ⟨x, r, rfl, h⟩
  · cases h
theorem xicmp_some {nx a : Nat} {cd : ClassFile.Cond} {lv st : List Value} {z : Nat × List Value × List Value} (h : xicmp nx a lv cd st = some z) : ∃ x y r, st = .int y :: .int x :: r ∧ xicmp nx a lv cd (.int y :: .int x :: r) = some z := by
  unfold xicmp at h; split at h
  · next y x r => exact ⟨x, y, r, rfl, h⟩
  · cases h
set_option maxHeartbeats 4000000 in
/-- ONE PLAIN STEP -/
theorem ax_step {G : xG} {X : xC} {Y : MI} {d mc ms n : Nat} {K : Nat → Nat × Nat} {I : Nat → Nat → Int32} {P : Nat → Nat → Option Nat} {cells slots pc : Nat} {lv st : List Value} {z : Nat × List Value × List Value}
    (hX : xAmb G X Y d mc ms) (hY : xpOK Y = true) (hs : xstep Y pc lv st = some z) (kk : aW G X Y n K I P cells slots z.1 z.2.1 z.2.2) : aW G X Y n K I P cells slots pc lv st := by
  obtain ⟨p, l, e, R, s, m, args, below, meth, c, Q⟩ := X
  obtain ⟨y, cc, nL, ret, prog, oc⟩ := Y
  intro H locs ls hR hlo hlv
  have kk' := fun ls' h => kk H locs ls' hR hlo h
  obtain ⟨hx, hb, hml, hown, hts, hK, -⟩ := hX
  dsimp only at hx hb hml hown hts hK hlv kk' ⊢
  unfold xstep at hs
  dsimp only at hs
  split at hs
  · next ins nx a cs hl =>
    obtain ⟨hd, hlt, hlen, hok⟩ := xdec hY hl
    dsimp only at hd hok
    cases ins
    case iconst q =>
      obtain ⟨v, t, r, rfl, rfl⟩ := xpush_some hs
      simp only [xlen, xopOK, decide_eq_true_eq] at hlen hok
      obtain rfl : nx = pc + 1 := by omega
      exact lv_iconst hx hb (by simpa using hd) hok (kk' ls hlv)
    case bipush q =>
      obtain ⟨v, t, r, rfl, rfl⟩ := xpush_some hs
      simp only [xlen, xopOK, decide_eq_true_eq] at hlen hok
      obtain rfl : nx = pc + 2 := by omega
      exact lv_bipush hx hb (by simpa using hd) hok (kk' ls hlv)
    case sipush q =>
      obtain ⟨v, t, r, rfl, rfl⟩ := xpush_some hs
      simp only [xlen, xopOK, decide_eq_true_eq] at hlen hok
      obtain rfl : nx = pc + 3 := by omega
      exact lv_sipush hx hb (by simpa using hd) hok (kk' ls hlv)
    case ldc q =>
      obtain ⟨v, t, r, rfl, rfl⟩ := xpush_some hs
      simp only [xlen, xopOK, decide_eq_true_eq] at hlen hok
      obtain rfl : nx = pc + 2 := by omega
      exact lv_ldc hx hb hown (hts _ (xw_of (List.mem_of_getElem? hok) rfl)) (by simpa using hd) (kk' ls hlv)
    case ldc_w q =>
      obtain ⟨v, t, r, rfl, rfl⟩ := xpush_some hs
      simp only [xlen, xopOK, decide_eq_true_eq] at hlen hok
      obtain rfl : nx = pc + 3 := by omega
      exact lv_ldcw hx hb hown (hts _ (xw_of (List.mem_of_getElem? hok) rfl)) (by simpa using hd) (kk' ls hlv)
    case lconst q =>
      cases hs
      simp only [xlen, xopOK, decide_eq_true_eq] at hlen hok
      obtain rfl : nx = pc + 1 := by omega
      exact lv_lconst hx hb (by simpa using hd) (by rw [hok]) (kk' ls hlv)
    case ldc2_w q =>
      cases hs
      simp only [xlen] at hlen
      obtain rfl : nx = pc + 3 := by omega
      simp only [xopOK] at hok
      split at hok
      · simp only [decide_eq_true_eq] at hok
        exact lv_ldc2 hx hb hown (hts _ (xw_of (List.mem_of_getElem? hok) rfl)) (by simpa using hd) (kk' ls hlv)
      · cases hok
    case iload q =>
      obtain ⟨x, hg, rfl⟩ := xildi_some hs
      simp only [xlen, xopOK, decide_eq_true_eq] at hlen hok
      obtain rfl : nx = pc + 2 := by omega
      subst hok
      have h1 := hlv.2.2 q (by rw [hg]; simp)
      rw [hg] at h1
      exact lv_iload hx hb (by simpa using hd) h1 (kk' ls hlv)
    case iload_n q =>
      obtain ⟨x, hg, rfl⟩ := xildi_some hs
      simp only [xlen, xopOK, decide_eq_true_eq] at hlen hok
      obtain rfl : nx = pc + 1 := by omega
      have h1 := hlv.2.2 a (by rw [hg]; simp)
      rw [hg] at h1
      exact lv_iload_n hx hb (by simpa using hd) hok h1 (kk' ls hlv)
    case lload q =>
      obtain ⟨x, hg, rfl⟩ := xildl_some hs
      simp only [xlen, xopOK, decide_eq_true_eq] at hlen hok
      obtain rfl : nx = pc + 2 := by omega
      subst hok
      have h1 := hlv.2.2 q (by rw [hg]; simp)
      rw [hg] at h1
      exact lv_lload hx hb (by simpa using hd) h1 (kk' ls hlv)
    case lload_n q =>
      obtain ⟨x, hg, rfl⟩ := xildl_some hs
      simp only [xlen, xopOK, decide_eq_true_eq] at hlen hok
      obtain rfl : nx = pc + 1 := by omega
      have h1 := hlv.2.2 a (by rw [hg]; simp)
      rw [hg] at h1
      exact lv_lload_n hx hb (by simpa using hd) hok h1 (kk' ls hlv)
    case aload q =>
      obtain ⟨x, hg, rfl⟩ := xilda_some hs
      simp only [xlen, xopOK, decide_eq_true_eq] at hlen hok
      obtain rfl : nx = pc + 2 := by omega
      subst hok
      have h1 := hlv.2.2 q (by rw [hg]; simp)
      rw [hg] at h1
      exact lv_aload hx hb (by simpa using hd) h1 (kk' ls hlv)
    case aload_n q =>
      obtain ⟨x, hg, rfl⟩ := xilda_some hs
      simp only [xlen, xopOK, decide_eq_true_eq] at hlen hok
      obtain rfl : nx = pc + 1 := by omega
      have h1 := hlv.2.2 a (by rw [hg]; simp)
      rw [hg] at h1
      exact lv_aload_n hx hb (by simpa using hd) hok h1 (kk' ls hlv)
    case istore q =>
      obtain ⟨x, r, rfl, hn, hf, rfl⟩ := xisti_some hs
      simp only [xlen, xopOK, decide_eq_true_eq] at hlen hok
      obtain rfl : nx = pc + 2 := by omega
      subst hok
      exact lv_istore hx hb (by simpa using hd) hlv.has hn rfl (fun ls' h => kk' ls' (xlv.put1 (v := .int x) hf h))
    case istore_n q =>
      obtain ⟨x, r, rfl, hn, hf, rfl⟩ := xisti_some hs
      simp only [xlen, xopOK, decide_eq_true_eq] at hlen hok
      obtain rfl : nx = pc + 1 := by omega
      exact lv_istore_n hx hb (by simpa using hd) hok hlv.has hn rfl (fun ls' h => kk' ls' (xlv.put1 (v := .int x) hf h))
    case astore q =>
      obtain ⟨x, r, rfl, hn, hf, rfl⟩ := xista_some hs
      simp only [xlen, xopOK, decide_eq_true_eq] at hlen hok
      obtain rfl : nx = pc + 2 := by omega
      subst hok
      exact lv_astore hx hb (by simpa using hd) hlv.has hn rfl (fun ls' h => kk' ls' (xlv.put1 (v := .ref x) hf h))
    case astore_n q =>
      obtain ⟨x, r, rfl, hn, hf, rfl⟩ := xista_some hs
      simp only [xlen, xopOK, decide_eq_true_eq] at hlen hok
      obtain rfl : nx = pc + 1 := by omega
      exact lv_astore_n hx hb (by simpa using hd) hok hlv.has hn rfl (fun ls' h => kk' ls' (xlv.put1 (v := .ref x) hf h))
    case lstore q =>
      obtain ⟨x, r, rfl, hn, hf, rfl⟩ := xistl_some hs
      simp only [xlen, xopOK, decide_eq_true_eq] at hlen hok
      obtain rfl : nx = pc + 2 := by omega
      subst hok
      exact lv_lstore hx hb (by simpa using hd) hlv.has hn rfl (fun ls' h => kk' ls' (xlv.put2 (v := .long x) hf h))
    case iinc q w =>
      obtain ⟨v, t, r, x, rfl, hg, hn, hf, rfl⟩ := xinc_some hs
      simp only [xlen, xopOK, Bool.and_eq_true, decide_eq_true_eq] at hlen hok
      obtain rfl : nx = pc + 3 := by omega
      obtain ⟨rfl, hv⟩ := hok
      have h1 := hlv.2.2 q (by rw [hg]; simp)
      rw [hg] at h1
      have hlv2 : lv_has ls nL ((q, .int x) :: xpl G lv) := ⟨hlv.1, hlv.2.1, fun u hu => by
        rcases List.mem_cons.mp hu with rfl | hu
        · exact h1
        · exact hlv.has.2.2 u hu⟩
      refine lv_iinc (k := 0) hx hb (by simpa using hd) hlv2 rfl rfl hn rfl (fun ls' h => kk' ls' (xlv.put1 (v := .int (x + v)) hf ?_))
      have h2 : ((q, Value.int x) :: xpl G lv).filter (fun u => !(u.1 == q) && !(u.1 + 1 == q && u.2.category == 2)) = (xpl G lv).filter (fun u => !(u.1 == q) && !(u.1 + 1 == q && u.2.category == 2)) := by
        rw [List.filter_cons]; simp
      rw [h2, hv] at h
      exact h
    case iadd =>
      obtain ⟨x, y, r, rfl, rfl⟩ := xbin_some hs
      simp only [xlen] at hlen
      obtain rfl : nx = pc + 1 := by omega
      exact lv_iadd hx hb (by simpa using hd) (kk' ls hlv)
    case isub =>
      obtain ⟨x, y, r, rfl, rfl⟩ := xbin_some hs
      simp only [xlen] at hlen
      obtain rfl : nx = pc + 1 := by omega
      exact lv_isub hx hb (by simpa using hd) (kk' ls hlv)
    case imul =>
      obtain ⟨x, y, r, rfl, rfl⟩ := xbin_some hs
      simp only [xlen] at hlen
      obtain rfl : nx = pc + 1 := by omega
      exact lv_imul hx hb (by simpa using hd) (kk' ls hlv)
    case iand =>
      obtain ⟨x, y, r, rfl, rfl⟩ := xbin_some hs
      simp only [xlen] at hlen
      obtain rfl : nx = pc + 1 := by omega
      exact lv_iand hx hb (by simpa using hd) (kk' ls hlv)
    case ior =>
      obtain ⟨x, y, r, rfl, rfl⟩ := xbin_some hs
      simp only [xlen] at hlen
      obtain rfl : nx = pc + 1 := by omega
      exact lv_ior hx hb (by simpa using hd) (kk' ls hlv)
    case ixor =>
      obtain ⟨x, y, r, rfl, rfl⟩ := xbin_some hs
      simp only [xlen] at hlen
      obtain rfl : nx = pc + 1 := by omega
      exact lv_ixor hx hb (by simpa using hd) (kk' ls hlv)
    case ishl =>
      obtain ⟨x, y, r, rfl, rfl⟩ := xbin_some hs
      simp only [xlen] at hlen
      obtain rfl : nx = pc + 1 := by omega
      exact lv_ishl hx hb (by simpa using hd) (kk' ls hlv)
    case ishr =>
      obtain ⟨x, y, r, rfl, rfl⟩ := xbin_some hs
      simp only [xlen] at hlen
      obtain rfl : nx = pc + 1 := by omega
      exact lv_ishr hx hb (by simpa using hd) (kk' ls hlv)
    case iushr =>
      obtain ⟨x, y, r, rfl, rfl⟩ := xbin_some hs
      simp only [xlen] at hlen
      obtain rfl : nx = pc + 1 := by omega
      exact lv_iushr hx hb (by simpa using hd) rfl (kk' ls hlv)
    case ineg =>
      obtain ⟨x, r, rfl, rfl⟩ := xun_some hs
      simp only [xlen] at hlen
      obtain rfl : nx = pc + 1 := by omega
      exact lv_ineg hx hb (by simpa using hd) (kk' ls hlv)
    case i2b =>
      obtain ⟨x, r, rfl, rfl⟩ := xun_some hs
      simp only [xlen] at hlen
      obtain rfl : nx = pc + 1 := by omega
      exact lv_i2b hx hb (by simpa using hd) rfl (kk' ls hlv)
    case i2s =>
      obtain ⟨x, r, rfl, rfl⟩ := xun_some hs
      simp only [xlen] at hlen
      obtain rfl : nx = pc + 1 := by omega
      exact lv_i2s hx hb (by simpa using hd) rfl (kk' ls hlv)
    case i2c =>
      obtain ⟨x, r, rfl, rfl⟩ := xun_some hs
      simp only [xlen] at hlen
      obtain rfl : nx = pc + 1 := by omega
      exact lv_i2c hx hb (by simpa using hd) rfl (kk' ls hlv)
    case i2l =>
      simp only [xins] at hs
      split at hs
      · cases hs
        simp only [xlen] at hlen
        obtain rfl : nx = pc + 1 := by omega
        exact lv_i2l hx hb (by simpa using hd) rfl (kk' ls hlv)
      · cases hs
    case l2i =>
      simp only [xins] at hs
      split at hs
      · cases hs
        simp only [xlen] at hlen
        obtain rfl : nx = pc + 1 := by omega
        exact lv_l2i hx hb (by simpa using hd) rfl (kk' ls hlv)
      · cases hs
    case land =>
      obtain ⟨x, y, r, rfl, rfl⟩ := xlbin_some hs
      simp only [xlen] at hlen
      obtain rfl : nx = pc + 1 := by omega
      exact lv_land hx hb (by simpa using hd) (kk' ls hlv)
    case lor =>
      obtain ⟨x, y, r, rfl, rfl⟩ := xlbin_some hs
      simp only [xlen] at hlen
      obtain rfl : nx = pc + 1 := by omega
      exact lv_lor hx hb (by simpa using hd) (kk' ls hlv)
    case lshl =>
      obtain ⟨x, y, r, rfl, rfl⟩ := xlsh_some hs
      simp only [xlen] at hlen
      obtain rfl : nx = pc + 1 := by omega
      exact lv_lshl hx hb (by simpa using hd) rfl (kk' ls hlv)
    case lshr =>
      obtain ⟨x, y, r, rfl, rfl⟩ := xlsh_some hs
      simp only [xlen] at hlen
      obtain rfl : nx = pc + 1 := by omega
      exact lv_lshr hx hb (by simpa using hd) rfl (kk' ls hlv)
    case lushr =>
      obtain ⟨x, y, r, rfl, rfl⟩ := xlsh_some hs
      simp only [xlen] at hlen
      obtain rfl : nx = pc + 1 := by omega
      exact lv_lushr hx hb (by simpa using hd) rfl (kk' ls hlv)
    case lcmp =>
      simp only [xins] at hs
      split at hs
      · cases hs
        simp only [xlen] at hlen
        obtain rfl : nx = pc + 1 := by omega
        exact W.lcmp hx hb (by simpa using hd) (kk' ls hlv)
      · cases hs
    case dup =>
      obtain ⟨v, r, hv, rfl, rfl⟩ := xdup_some hs
      simp only [xlen] at hlen
      obtain rfl : nx = pc + 1 := by omega
      exact lv_dup hx hb (by simpa using hd) (by rw [xv_cat]; exact hv) (kk' ls hlv)
    case dup2 =>
      obtain ⟨v, w, r, hv, hw, rfl, rfl⟩ := xdup2_some hs
      simp only [xlen] at hlen
      obtain rfl : nx = pc + 1 := by omega
      exact lv_dup2_11 hx hb (by simpa using hd) (by rw [xv_cat]; exact hv) (by rw [xv_cat]; exact hw) (kk' ls hlv)
    case pop =>
      obtain ⟨v, r, hv, rfl, rfl⟩ := xpop_some hs
      simp only [xlen] at hlen
      obtain rfl : nx = pc + 1 := by omega
      exact lv_pop hx hb (by simpa using hd) (by rw [xv_cat]; exact hv) (kk' ls hlv)
    case goto o =>
      cases hs
      simp only [xlen, xopOK, decide_eq_true_eq] at hlen hok
      obtain rfl : nx = pc + 3 := by omega
      exact lv_goto hx hb (by simpa using hd) hok (kk' ls hlv)
    case ifCond cd o =>
      obtain ⟨x, r, rfl, hs⟩ := xif_some hs
      simp only [xlen, xopOK, decide_eq_true_eq] at hlen hok
      obtain rfl : nx = pc + 3 := by omega
      have hd : decode cc pc = .ok (.ifCond cd o, 3) := by simpa using hd
      cases cd <;> cases hs
      · exact lv_if_eq hx hb hd hok (fun h => by have k2 := kk' ls hlv; rw [if_pos h] at k2; exact k2) (fun h => by have k2 := kk' ls hlv; rw [if_neg h] at k2; exact k2)
      · exact lv_if_ne hx hb hd hok (fun h => by have k2 := kk' ls hlv; rw [if_neg h] at k2; exact k2) (fun h => by have k2 := kk' ls hlv; rw [if_pos h] at k2; exact k2)
      · exact lv_if_lt hx hb hd hok (fun h => by have k2 := kk' ls hlv; rw [if_pos h] at k2; exact k2) (fun h => by have k2 := kk' ls hlv; rw [if_neg h] at k2; exact k2)
      · exact lv_if_ge hx hb hd hok (fun h => by have k2 := kk' ls hlv; rw [if_pos h] at k2; exact k2) (fun h => by have k2 := kk' ls hlv; rw [if_neg h] at k2; exact k2)
      · exact lv_if_gt hx hb hd hok (fun h => by have k2 := kk' ls hlv; rw [if_pos h] at k2; exact k2) (fun h => by have k2 := kk' ls hlv; rw [if_neg h] at k2; exact k2)
      · exact lv_if_le hx hb hd hok (fun h => by have k2 := kk' ls hlv; rw [if_pos h] at k2; exact k2) (fun h => by have k2 := kk' ls hlv; rw [if_neg h] at k2; exact k2)
    case if_icmp cd o =>
      obtain ⟨x, y, r, rfl, hs⟩ := xicmp_some hs
      simp only [xlen, xopOK, decide_eq_true_eq] at hlen hok
      obtain rfl : nx = pc + 3 := by omega
      have hd : decode cc pc = .ok (.if_icmp cd o, 3) := by simpa using hd
      cases cd <;> cases hs
      · exact lv_icmp_eq hx hb hd hok (fun h => by have k2 := kk' ls hlv; rw [if_pos h] at k2; exact k2) (fun h => by have k2 := kk' ls hlv; rw [if_neg h] at k2; exact k2)
      · exact lv_icmp_ne hx hb hd hok (fun h => by have k2 := kk' ls hlv; rw [if_neg h] at k2; exact k2) (fun h => by have k2 := kk' ls hlv; rw [if_pos h] at k2; exact k2)
      · exact lv_icmp_lt hx hb hd hok (fun h => by have k2 := kk' ls hlv; rw [if_pos h] at k2; exact k2) (fun h => by have k2 := kk' ls hlv; rw [if_neg h] at k2; exact k2)
      · exact lv_icmp_ge hx hb hd hok (fun h => by have k2 := kk' ls hlv; rw [if_pos h] at k2; exact k2) (fun h => by have k2 := kk' ls hlv; rw [if_neg h] at k2; exact k2)
      · exact lv_icmp_gt hx hb hd hok (fun h => by have k2 := kk' ls hlv; rw [if_pos h] at k2; exact k2) (fun h => by have k2 := kk' ls hlv; rw [if_neg h] at k2; exact k2)
      · exact lv_icmp_le hx hb hd hok (fun h => by have k2 := kk' ls hlv; rw [if_pos h] at k2; exact k2) (fun h => by have k2 := kk' ls hlv; rw [if_neg h] at k2; exact k2)
    case tableswitch df lo hi offs =>
      obtain ⟨x, r, rfl, rfl⟩ := xsw_some hs
      simp only [xopOK, Bool.and_eq_true, decide_eq_true_eq] at hok
      obtain ⟨h1, rfl, h3⟩ := hok
      rcases xts_spec (x := x) (d := a) offs.toList lo cs h3 with ⟨h4, h5⟩ | ⟨h4, h5, o, h6, h7⟩
      · exact lv_tableOut hx hb hd h4 h1 (by have k2 := kk' ls hlv; rw [h5] at k2; exact k2)
      · exact lv_tableIn hx hb hd h4 h5 (by rw [← Array.getElem?_toList]; exact h6) h7 (kk' ls hlv)
    case lookupswitch df ps =>
      obtain ⟨x, r, rfl, rfl⟩ := xsw_some hs
      simp only [xopOK, Bool.and_eq_true, decide_eq_true_eq] at hok
      obtain ⟨h1, h2, h3⟩ := hok
      exact lv_lookup hx hb hd h2 rfl (xls_spec (x := x) h1 ps.toList cs h3) (kk' ls hlv)
    all_goals exact absurd hs (by simp [xins])
  · cases hs
end
section
def xcn (c : Nat) : String := match c with
  | 0 => "HandOverHorse$Stroke"
  | 1 => "HandOverHorse$Red"
  | 2 => "HandOverHorse$Black"
  | 3 => "HandOverHorse$Scratch"
  | 4 => "HandOverHorse$Child"
  | 5 => "HandOverHorse$Soot"
  | 6 => "HandOverHorse$Forged"
  | 7 => "HandOverHorse$Text"
  | 8 => "HandOverHorse$Wall"
  | 9 => "HandOverHorse$Sets"
  | 10 => "HandOverHorse$Spans"
  | 11 => "HandOverHorse"
  | 12 => "HandOverHorseModel"
  | 13 => "HandOverHorseLaw"
  | _ => ""
def xTc (c : Nat) : u_T := match c with
  | 0 => xT0
  | 1 => xT1
  | 2 => xT2
  | 3 => xT3
  | 4 => xT4
  | 5 => xT5
  | 6 => xT6
  | 7 => xT7
  | 8 => xT8
  | 9 => xT9
  | 10 => xT10
  | 11 => xT11
  | _ => xT12
def xflt (oc : Nat) : List (Nat × Nat × Nat × String × Nat × Nat) := match oc with
  | 0 => [(9, 0, 5, "HandOverHorse$Stroke", 138, 0), (9, 1, 5, "HandOverHorse$Stroke", 138, 0), (9, 2, 5, "HandOverHorse$Stroke", 138, 0), (9, 3, 5, "HandOverHorse$Stroke", 138, 0), (9, 4, 5, "HandOverHorse$Stroke", 138, 0), (9, 5, 5, "HandOverHorse$Stroke", 138, 0), (9, 6, 5, "HandOverHorse$Stroke", 138, 0), (15, 0, 0, "HandOverHorse$Stroke", 117, 0), (15, 1, 0, "HandOverHorse$Stroke", 117, 0), (15, 2, 0, "HandOverHorse$Stroke", 117, 0), (15, 3, 0, "HandOverHorse$Stroke", 117, 0), (15, 4, 0, "HandOverHorse$Stroke", 117, 0), (15, 5, 0, "HandOverHorse$Stroke", 117, 0), (15, 6, 0, "HandOverHorse$Stroke", 117, 0), (18, 0, 1, "HandOverHorse$Stroke", 121, 0), (18, 1, 1, "HandOverHorse$Stroke", 121, 0), (18, 2, 1, "HandOverHorse$Stroke", 121, 0), (18, 3, 1, "HandOverHorse$Stroke", 121, 0), (18, 4, 1, "HandOverHorse$Stroke", 121, 0), (18, 5, 1, "HandOverHorse$Stroke", 121, 0), (18, 6, 1, "HandOverHorse$Stroke", 121, 0), (21, 0, 2, "HandOverHorse$Stroke", 132, 0), (21, 1, 2, "HandOverHorse$Stroke", 132, 0), (21, 2, 2, "HandOverHorse$Stroke", 132, 0), (21, 3, 2, "HandOverHorse$Stroke", 132, 0), (21, 4, 2, "HandOverHorse$Stroke", 132, 0), (21, 5, 2, "HandOverHorse$Stroke", 132, 0), (21, 6, 2, "HandOverHorse$Stroke", 132, 0), (24, 0, 3, "HandOverHorse$Stroke", 135, 0), (24, 1, 3, "HandOverHorse$Stroke", 135, 0), (24, 2, 3, "HandOverHorse$Stroke", 135, 0), (24, 3, 3, "HandOverHorse$Stroke", 135, 0), (24, 4, 3, "HandOverHorse$Stroke", 135, 0), (24, 5, 3, "HandOverHorse$Stroke", 135, 0), (24, 6, 3, "HandOverHorse$Stroke", 135, 0), (27, 0, 4, "HandOverHorse$Stroke", 137, 0), (27, 1, 4, "HandOverHorse$Stroke", 137, 0), (27, 2, 4, "HandOverHorse$Stroke", 137, 0), (27, 3, 4, "HandOverHorse$Stroke", 137, 0), (27, 4, 4, "HandOverHorse$Stroke", 137, 0), (27, 5, 4, "HandOverHorse$Stroke", 137, 0), (27, 6, 4, "HandOverHorse$Stroke", 137, 0), (30, 0, 6, "HandOverHorse$Stroke", 139, 0), (30, 1, 6, "HandOverHorse$Stroke", 139, 0), (30, 2, 6, "HandOverHorse$Stroke", 139, 0), (30, 3, 6, "HandOverHorse$Stroke", 139, 0), (30, 4, 6, "HandOverHorse$Stroke", 139, 0), (30, 5, 6, "HandOverHorse$Stroke", 139, 0), (30, 6, 6, "HandOverHorse$Stroke", 139, 0)]
  | 1 => [(15, 0, 1, "HandOverHorse$Red", 122, 123), (15, 1, 1, "HandOverHorse$Red", 122, 123), (15, 2, 1, "HandOverHorse$Red", 122, 123), (15, 3, 1, "HandOverHorse$Red", 122, 123), (15, 4, 1, "HandOverHorse$Red", 122, 123), (15, 5, 1, "HandOverHorse$Red", 122, 123), (15, 6, 1, "HandOverHorse$Red", 122, 123)]
  | 2 => [(15, 0, 6, "HandOverHorse$Black", 142, 143), (15, 1, 6, "HandOverHorse$Black", 142, 143), (15, 2, 6, "HandOverHorse$Black", 142, 143), (15, 3, 6, "HandOverHorse$Black", 142, 143), (15, 4, 6, "HandOverHorse$Black", 142, 143), (15, 5, 6, "HandOverHorse$Black", 142, 143), (15, 6, 6, "HandOverHorse$Black", 142, 143)]
  | 3 => [(15, 0, 1, "HandOverHorse$Scratch", 124, 125), (15, 1, 1, "HandOverHorse$Scratch", 124, 125), (15, 2, 1, "HandOverHorse$Scratch", 124, 125), (15, 3, 1, "HandOverHorse$Scratch", 124, 125), (15, 4, 1, "HandOverHorse$Scratch", 124, 125), (15, 5, 1, "HandOverHorse$Scratch", 124, 125), (15, 6, 1, "HandOverHorse$Scratch", 124, 125)]
  | 4 => [(18, 0, 1, "HandOverHorse$Child", 126, 127), (18, 1, 1, "HandOverHorse$Child", 126, 127), (18, 2, 1, "HandOverHorse$Child", 126, 127), (18, 3, 1, "HandOverHorse$Child", 126, 127), (18, 4, 1, "HandOverHorse$Child", 126, 127), (18, 5, 1, "HandOverHorse$Child", 126, 127), (18, 6, 1, "HandOverHorse$Child", 126, 127)]
  | 5 => [(15, 0, 6, "HandOverHorse$Soot", 140, 141), (15, 1, 6, "HandOverHorse$Soot", 140, 141), (15, 2, 6, "HandOverHorse$Soot", 140, 141), (15, 3, 6, "HandOverHorse$Soot", 140, 141), (15, 4, 6, "HandOverHorse$Soot", 140, 141), (15, 5, 6, "HandOverHorse$Soot", 140, 141), (15, 6, 6, "HandOverHorse$Soot", 140, 141)]
  | 6 => [(26, 0, 1, "HandOverHorse$Forged", 128, 129), (26, 1, 1, "HandOverHorse$Forged", 128, 129), (26, 2, 1, "HandOverHorse$Forged", 128, 129), (26, 3, 1, "HandOverHorse$Forged", 128, 129), (26, 4, 1, "HandOverHorse$Forged", 128, 129), (26, 5, 1, "HandOverHorse$Forged", 128, 129), (26, 6, 1, "HandOverHorse$Forged", 128, 129), (40, 0, 0, "HandOverHorse$Forged", 118, 119), (40, 1, 0, "HandOverHorse$Forged", 118, 119), (40, 2, 0, "HandOverHorse$Forged", 118, 119), (40, 3, 0, "HandOverHorse$Forged", 118, 119), (40, 4, 0, "HandOverHorse$Forged", 118, 119), (40, 5, 0, "HandOverHorse$Forged", 118, 119), (40, 6, 0, "HandOverHorse$Forged", 118, 119)]
  | 7 => [(9, 7, 0, "HandOverHorse$Text", 168, 0), (15, 7, 1, "HandOverHorse$Text", 169, 0), (18, 7, 3, "HandOverHorse$Text", 171, 0), (21, 7, 4, "HandOverHorse$Text", 172, 0), (26, 7, 7, "HandOverHorse$Text", 175, 0), (30, 7, 2, "HandOverHorse$Text", 170, 0), (34, 7, 5, "HandOverHorse$Text", 173, 0), (37, 7, 6, "HandOverHorse$Text", 174, 0)]
  | 8 => [(11, 8, 0, "HandOverHorse$Wall", 195, 0), (18, 8, 2, "HandOverHorse$Wall", 202, 0), (22, 8, 3, "HandOverHorse$Wall", 206, 0), (25, 8, 4, "HandOverHorse$Wall", 210, 0), (28, 8, 6, "HandOverHorse$Wall", 216, 0), (33, 8, 8, "HandOverHorse$Wall", 219, 0), (38, 8, 9, "HandOverHorse$Wall", 220, 0), (42, 8, 10, "HandOverHorse$Wall", 221, 0), (45, 8, 12, "HandOverHorse$Wall", 225, 0), (49, 8, 1, "HandOverHorse$Wall", 200, 0), (64, 8, 5, "HandOverHorse$Wall", 212, 0), (73, 8, 7, "HandOverHorse$Wall", 217, 0), (79, 8, 11, "HandOverHorse$Wall", 223, 0), (121, 0, 0, "HandOverHorse$Stroke", 120, 0), (121, 1, 0, "HandOverHorse$Stroke", 120, 0), (121, 2, 0, "HandOverHorse$Stroke", 120, 0), (121, 3, 0, "HandOverHorse$Stroke", 120, 0), (121, 4, 0, "HandOverHorse$Stroke", 120, 0), (121, 5, 0, "HandOverHorse$Stroke", 120, 0), (121, 6, 0, "HandOverHorse$Stroke", 120, 0), (124, 0, 1, "HandOverHorse$Stroke", 131, 0), (124, 1, 1, "HandOverHorse$Stroke", 131, 0), (124, 2, 1, "HandOverHorse$Stroke", 131, 0), (124, 3, 1, "HandOverHorse$Stroke", 131, 0), (124, 4, 1, "HandOverHorse$Stroke", 131, 0), (124, 5, 1, "HandOverHorse$Stroke", 131, 0), (124, 6, 1, "HandOverHorse$Stroke", 131, 0), (127, 0, 2, "HandOverHorse$Stroke", 133, 0), (127, 1, 2, "HandOverHorse$Stroke", 133, 0), (127, 2, 2, "HandOverHorse$Stroke", 133, 0), (127, 3, 2, "HandOverHorse$Stroke", 133, 0), (127, 4, 2, "HandOverHorse$Stroke", 133, 0), (127, 5, 2, "HandOverHorse$Stroke", 133, 0), (127, 6, 2, "HandOverHorse$Stroke", 133, 0), (130, 0, 3, "HandOverHorse$Stroke", 136, 0), (130, 1, 3, "HandOverHorse$Stroke", 136, 0), (130, 2, 3, "HandOverHorse$Stroke", 136, 0), (130, 3, 3, "HandOverHorse$Stroke", 136, 0), (130, 4, 3, "HandOverHorse$Stroke", 136, 0), (130, 5, 3, "HandOverHorse$Stroke", 136, 0), (130, 6, 3, "HandOverHorse$Stroke", 136, 0), (146, 0, 6, "HandOverHorse$Stroke", 144, 0), (146, 1, 6, "HandOverHorse$Stroke", 144, 0), (146, 2, 6, "HandOverHorse$Stroke", 144, 0), (146, 3, 6, "HandOverHorse$Stroke", 144, 0), (146, 4, 6, "HandOverHorse$Stroke", 144, 0), (146, 5, 6, "HandOverHorse$Stroke", 144, 0), (146, 6, 6, "HandOverHorse$Stroke", 144, 0)]
  | 9 => [(9, 9, 0, "HandOverHorse$Sets", 260, 0), (15, 9, 1, "HandOverHorse$Sets", 262, 0), (18, 9, 2, "HandOverHorse$Sets", 263, 0), (21, 9, 3, "HandOverHorse$Sets", 264, 0), (24, 9, 4, "HandOverHorse$Sets", 265, 0), (27, 9, 5, "HandOverHorse$Sets", 266, 0), (30, 9, 6, "HandOverHorse$Sets", 267, 0), (33, 9, 7, "HandOverHorse$Sets", 268, 0), (37, 8, 1, "HandOverHorse$Wall", 198, 0), (43, 8, 5, "HandOverHorse$Wall", 214, 0), (46, 8, 2, "HandOverHorse$Wall", 203, 0), (49, 8, 3, "HandOverHorse$Wall", 207, 0), (104, 8, 0, "HandOverHorse$Wall", 197, 0)]
  | 10 => [(9, 10, 0, "HandOverHorse$Spans", 293, 0), (15, 10, 1, "HandOverHorse$Spans", 295, 0), (18, 10, 4, "HandOverHorse$Spans", 301, 0), (21, 10, 5, "HandOverHorse$Spans", 302, 0), (24, 10, 6, "HandOverHorse$Spans", 303, 0), (27, 10, 7, "HandOverHorse$Spans", 304, 0), (30, 8, 1, "HandOverHorse$Wall", 199, 0), (51, 8, 5, "HandOverHorse$Wall", 213, 0), (54, 8, 2, "HandOverHorse$Wall", 204, 0), (57, 8, 3, "HandOverHorse$Wall", 208, 0), (66, 10, 2, "HandOverHorse$Spans", 297, 0), (73, 10, 3, "HandOverHorse$Spans", 299, 0)]
  | 11 => [(10, 11, 0, "HandOverHorse", 324, 0), (16, 11, 1, "HandOverHorse", 325, 0), (22, 11, 2, "HandOverHorse", 326, 0), (29, 11, 3, "HandOverHorse", 327, 0), (35, 11, 4, "HandOverHorse", 328, 0), (38, 11, 5, "HandOverHorse", 329, 0), (42, 11, 6, "HandOverHorse", 330, 0), (45, 11, 7, "HandOverHorse", 331, 0), (48, 11, 8, "HandOverHorse", 332, 0), (51, 11, 9, "HandOverHorse", 333, 0), (64, 8, 1, "HandOverHorse$Wall", 201, 0), (75, 8, 0, "HandOverHorse$Wall", 196, 0), (107, 0, 1, "HandOverHorse$Stroke", 130, 0), (107, 1, 1, "HandOverHorse$Stroke", 130, 0), (107, 2, 1, "HandOverHorse$Stroke", 130, 0), (107, 3, 1, "HandOverHorse$Stroke", 130, 0), (107, 4, 1, "HandOverHorse$Stroke", 130, 0), (107, 5, 1, "HandOverHorse$Stroke", 130, 0), (107, 6, 1, "HandOverHorse$Stroke", 130, 0), (117, 8, 5, "HandOverHorse$Wall", 215, 0), (126, 8, 2, "HandOverHorse$Wall", 205, 0), (129, 8, 3, "HandOverHorse$Wall", 209, 0), (132, 8, 4, "HandOverHorse$Wall", 211, 0), (138, 8, 7, "HandOverHorse$Wall", 218, 0), (173, 9, 0, "HandOverHorse$Sets", 261, 0), (183, 10, 0, "HandOverHorse$Spans", 294, 0), (186, 10, 1, "HandOverHorse$Spans", 296, 0), (195, 10, 2, "HandOverHorse$Spans", 298, 0), (198, 10, 3, "HandOverHorse$Spans", 300, 0), (222, 0, 2, "HandOverHorse$Stroke", 134, 0), (222, 1, 2, "HandOverHorse$Stroke", 134, 0), (222, 2, 2, "HandOverHorse$Stroke", 134, 0), (222, 3, 2, "HandOverHorse$Stroke", 134, 0), (222, 4, 2, "HandOverHorse$Stroke", 134, 0), (222, 5, 2, "HandOverHorse$Stroke", 134, 0), (222, 6, 2, "HandOverHorse$Stroke", 134, 0), (244, 8, 12, "HandOverHorse$Wall", 226, 0), (282, 8, 11, "HandOverHorse$Wall", 224, 0), (285, 8, 10, "HandOverHorse$Wall", 222, 0)]
  | 12 => [(7, 12, 0, "HandOverHorseModel", 1286, 0), (13, 12, 1, "HandOverHorseModel", 1287, 0), (16, 12, 3, "HandOverHorseModel", 1289, 0), (19, 12, 10, "HandOverHorseModel", 1296, 0), (22, 12, 11, "HandOverHorseModel", 1297, 0), (25, 12, 12, "HandOverHorseModel", 1298, 0), (28, 12, 13, "HandOverHorseModel", 1299, 0), (31, 12, 14, "HandOverHorseModel", 1300, 0), (34, 12, 15, "HandOverHorseModel", 1301, 0), (37, 12, 16, "HandOverHorseModel", 1302, 0), (40, 12, 17, "HandOverHorseModel", 1303, 0), (43, 12, 18, "HandOverHorseModel", 1304, 0), (47, 12, 19, "HandOverHorseModel", 1305, 0), (50, 12, 20, "HandOverHorseModel", 1306, 0), (53, 12, 23, "HandOverHorseModel", 1309, 0), (56, 12, 24, "HandOverHorseModel", 1310, 0), (59, 12, 25, "HandOverHorseModel", 1311, 0), (62, 12, 26, "HandOverHorseModel", 1312, 0), (70, 12, 5, "HandOverHorseModel", 1291, 0), (74, 12, 6, "HandOverHorseModel", 1292, 0), (77, 12, 7, "HandOverHorseModel", 1293, 0), (80, 12, 4, "HandOverHorseModel", 1290, 0), (87, 12, 9, "HandOverHorseModel", 1295, 0), (110, 12, 8, "HandOverHorseModel", 1294, 0), (275, 12, 21, "HandOverHorseModel", 1307, 0), (278, 12, 22, "HandOverHorseModel", 1308, 0), (313, 12, 2, "HandOverHorseModel", 1288, 0)]
  | 13 => []
  | _ => []
def x0 : Nat := 107
def xtabL : List (Nat × Nat) := [(11, 0), (8, 0), (15, 8), (0, 0), (0, 0), (0, 0), (0, 0), (0, 0), (0, 0), (0, 0), (0, 0), (13, 12), (13, 12), (13, 12), (13, 50), (16, 2), (7, 0), (13, 50), (13, 50), (13, 50), (13, 0), (7, 0), (13, 50), (13, 50), (13, 50), (13, 0), (7, 0), (13, 50), (13, 50), (13, 50), (13, 0), (13, 20), (8, 0), (15, 8), (0, 0), (0, 0), (0, 0), (0, 0), (0, 0), (0, 0), (0, 0), (0, 0), (13, 12), (13, 12), (13, 12), (13, 50), (16, 2), (7, 0), (13, 50), (13, 50), (13, 50), (13, 0), (7, 0), (13, 50), (13, 50), (13, 50), (13, 0), (7, 0), (13, 50), (13, 50), (13, 50), (13, 0), (13, 20), (9, 0), (13, 8), (13, 8), (13, 8), (13, 64), (13, 4), (13, 256), (13, 256), (14, 256), (10, 0), (13, 8), (13, 8), (13, 8), (13, 8), (13, 8), (13, 8), (17, 4), (13, 40), (13, 40), (13, 40), (13, 40), (13, 4), (13, 4), (13, 41), (13, 6), (12, 0), (13, 270), (13, 270), (13, 6), (13, 4), (13, 8), (13, 256), (13, 256), (13, 256), (13, 8), (13, 8), (13, 8), (14, 256), (13, 256), (13, 40), (13, 4), (13, 4), (13, 160), (13, 40)]
def xnth {α : Type} (d : α) : List α → Nat → α
  | [], _ => d
  | a :: _, 0 => a
  | _ :: l, n + 1 => xnth d l n
def xtab (r : Nat) : Nat × Nat := xnth (0, 7) xtabL r
def xptL : List (List (Nat × Nat)) := [[(0, 1), (1, 32), (2, 63), (3, 72), (4, 79), (5, 84), (6, 85), (7, 86), (8, 87)], [(0, 2), (2, 11), (3, 12), (4, 13), (6, 14), (8, 15), (9, 26), (10, 31)], [], [], [], [], [], [], [], [], [], [], [], [], [], [(0, 16), (1, 21)], [(0, 17), (1, 18), (3, 19), (4, 20), (7, 1000002)], [], [], [], [], [(0, 22), (1, 23), (3, 24), (4, 25), (7, 1000002)], [], [], [], [], [(0, 27), (1, 28), (3, 29), (4, 30), (7, 1000002)], [], [], [], [], [], [(0, 33), (2, 42), (3, 43), (4, 44), (6, 45), (8, 46), (9, 57), (10, 62)], [], [], [], [], [], [], [], [], [], [], [], [], [], [(0, 47), (1, 52)], [(0, 48), (1, 49), (3, 50), (4, 51), (7, 1000002)], [], [], [], [], [(0, 53), (1, 54), (3, 55), (4, 56), (7, 1000002)], [], [], [], [], [(0, 58), (1, 59), (3, 60), (4, 61), (7, 1000002)], [], [], [], [], [], [(0, 64), (1, 65), (2, 66), (3, 67), (4, 68), (5, 69), (6, 70), (7, 71)], [], [], [], [], [], [], [], [], [(0, 73), (1, 74), (4, 75), (5, 76), (6, 77), (7, 78)], [], [], [], [], [], [], [(0, 80), (1, 81), (2, 82), (3, 83)], [], [], [], [], [], [], [], [], [(0, 89), (1, 90), (3, 91), (10, 92), (11, 93), (12, 94), (13, 95), (14, 96), (15, 97), (16, 98), (17, 99), (18, 100), (19, 101), (20, 102), (23, 103), (24, 104), (25, 105), (26, 106)], [], [], [], [], [], [], [], [], [], [], [], [], [], [], [], [], [], []]
def xpl0 : List (Nat × Nat) → Nat → Option Nat
  | [], _ => none
  | (k, q) :: l, j => bif Nat.beq k j then some q else xpl0 l j
def xptab (r k : Nat) : Option Nat := xpl0 (xnth [] xptL r) k
theorem xCl_get {c : Nat} (h : c < 13) : xCl[c]? = some (xcn c, xTc c, xN c) := by
  rcases (show c = 0 ∨ c = 1 ∨ c = 2 ∨ c = 3 ∨ c = 4 ∨ c = 5 ∨ c = 6 ∨ c = 7 ∨ c = 8 ∨ c = 9 ∨ c = 10 ∨ c = 11 ∨ c = 12 by omega) with rfl | rfl | rfl | rfl | rfl | rfl | rfl | rfl | rfl | rfl | rfl | rfl | rfl <;> rfl
theorem xi_all {c : Nat} (h : c < 13) : ∀ w ∈ u_ws (xcn c) (xTc c) (xN c), w ∈ xw := by
  rcases (show c = 0 ∨ c = 1 ∨ c = 2 ∨ c = 3 ∨ c = 4 ∨ c = 5 ∨ c = 6 ∨ c = 7 ∨ c = 8 ∨ c = 9 ∨ c = 10 ∨ c = 11 ∨ c = 12 by omega) with rfl | rfl | rfl | rfl | rfl | rfl | rfl | rfl | rfl | rfl | rfl | rfl | rfl
  · exact xi0
  · exact xi1
  · exact xi2
  · exact xi3
  · exact xi4
  · exact xi5
  · exact xi6
  · exact xi7
  · exact xi8
  · exact xi9
  · exact xi10
  · exact xi11
  · exact xi12
theorem xn_all {c : Nat} (h : c < 13) : ∀ a, a < xN c → ∀ b, b < xN c → a ≠ b → (xTc c a).2.1 ≠ (xTc c b).2.1 := by
  rcases (show c = 0 ∨ c = 1 ∨ c = 2 ∨ c = 3 ∨ c = 4 ∨ c = 5 ∨ c = 6 ∨ c = 7 ∨ c = 8 ∨ c = 9 ∨ c = 10 ∨ c = 11 ∨ c = 12 by omega) with rfl | rfl | rfl | rfl | rfl | rfl | rfl | rfl | rfl | rfl | rfl | rfl | rfl
  · exact xn0
  · exact xn1
  · exact xn2
  · exact xn3
  · exact xn4
  · exact xn5
  · exact xn6
  · exact xn7
  · exact xn8
  · exact xn9
  · exact xn10
  · exact xn11
  · exact xn12
theorem xtk_all {c : Nat} (h : c < 13) : ∀ k, k < xN c → parseFieldDescriptor (xTc c k).2.2.1 = some (xty c k) := by
  rcases (show c = 0 ∨ c = 1 ∨ c = 2 ∨ c = 3 ∨ c = 4 ∨ c = 5 ∨ c = 6 ∨ c = 7 ∨ c = 8 ∨ c = 9 ∨ c = 10 ∨ c = 11 ∨ c = 12 by omega) with rfl | rfl | rfl | rfl | rfl | rfl | rfl | rfl | rfl | rfl | rfl | rfl | rfl
  · exact xtk0
  · exact xtk1
  · exact xtk2
  · exact xtk3
  · exact xtk4
  · exact xtk5
  · exact xtk6
  · exact xtk7
  · exact xtk8
  · exact xtk9
  · exact xtk10
  · exact xtk11
  · exact xtk12
def xfkl : List (Nat × Nat × Nat × String × Nat × Nat) → Nat → Nat → Option Nat
  | [], _, _ => none
  | e :: l, idx, c => bif Nat.beq e.1 idx && Nat.beq e.2.1 c then some e.2.2.1 else xfkl l idx c
/-- the field (by its slot) of an object of class c that entry idx of class oc's pool names -/
def xfk (oc idx c : Nat) : Option Nat := xfkl (xflt oc) idx c
def xfOK (oc : Nat) (e : Nat × Nat × Nat × String × Nat × Nat) : Bool :=
  decide (e.2.1 < 13) && (decide (e.2.2.1 < xN e.2.1) && (decide (lw_tbl[e.2.2.2.2.1]? = some (.fieldLink (xcn oc) e.1 e.2.2.2.1 (xTc e.2.1 e.2.2.1).2.1 (xTc e.2.1 e.2.2.1).2.2.1)) &&
    (decide (e.2.2.2.1 = (xTc e.2.1 e.2.2.1).1) || decide (lw_tbl[e.2.2.2.2.2]? = some (.sameField e.2.2.2.1 (xTc e.2.1 e.2.2.1).1 (xTc e.2.1 e.2.2.1).2.1 (xTc e.2.1 e.2.2.1).2.2.1)))))
set_option maxRecDepth 20000 in
theorem xfl_ok : ∀ oc, oc < 14 → (xflt oc).all (xfOK oc) = true := by decide +kernel
theorem xfk_ok {oc idx c k : Nat} (h : xfk oc idx c = some k) : c < 13 ∧ k < xN c ∧ ∃ ref, Cond.fieldLink (xcn oc) idx ref (xTc c k).2.1 (xTc c k).2.2.1 ∈ xw ∧ (ref = (xTc c k).1 ∨ Cond.sameField ref (xTc c k).1 (xTc c k).2.1 (xTc c k).2.2.1 ∈ xw) := by
  have key : ∀ L : List (Nat × Nat × Nat × String × Nat × Nat), xfkl L idx c = some k → ∃ e ∈ L, e.1 = idx ∧ e.2.1 = c ∧ e.2.2.1 = k := by
    intro L
    induction L with
    | nil => intro h; cases h
    | cons e L ih =>
      intro h
      unfold xfkl at h
      by_cases hb : (Nat.beq e.1 idx && Nat.beq e.2.1 c) = true
      · rw [hb] at h
        simp only [Bool.and_eq_true] at hb
        exact ⟨e, List.mem_cons_self, Nat.eq_of_beq_eq_true hb.1, Nat.eq_of_beq_eq_true hb.2, Option.some.inj h⟩
      · rw [(Bool.not_eq_true _).mp hb] at h
        obtain ⟨e', h1, h2⟩ := ih h
        exact ⟨e', List.mem_cons_of_mem _ h1, h2⟩
  have hoc : oc < 14 := by
    rcases Nat.lt_or_ge oc 14 with q | q
    · exact q
    · exfalso
      unfold xfk at h
      have : xflt oc = [] := by
        unfold xflt
        split <;> first | omega | rfl
      rw [this] at h
      cases h
  obtain ⟨e, he, rfl, rfl, rfl⟩ := key _ h
  have h1 := List.all_eq_true.mp (xfl_ok oc hoc) e he
  simp only [xfOK, Bool.and_eq_true, Bool.or_eq_true, decide_eq_true_eq] at h1
  obtain ⟨h2, h3, h4, h5⟩ := h1
  exact ⟨h2, h3, e.2.2.2.1, xw_of (List.mem_of_getElem? h4) rfl, h5.elim Or.inl (fun h => Or.inr (xw_of (List.mem_of_getElem? h) rfl))⟩
/-! cells of the heap -/
def xrow (I : Nat → Nat → Int32) (r : Nat) (f : Nat → Int32) : Nat → Nat → Int32 := fun a => if a = r then f else I a
def xu (I : Nat → Nat → Int32) (r k : Nat) (v : Int32) : Nat → Nat → Int32 := xrow I r (upd (I r) k v)
def xup (P : Nat → Nat → Option Nat) (r k : Nat) (o : Option Nat) : Nat → Nat → Option Nat := fun a => if a = r then va_up (P r) k o else P a
theorem xmu_new {G : xG} {r : Nat} (h : r < 1000000) : xmu G r = G.2.2.1 + r := if_pos h
theorem xL_get {G : xG} {n : Nat} {K : Nat → Nat × Nat} {I : Nat → Nat → Int32} {P : Nat → Nat → Option Nat} {r : Nat} (h : r < n) : (xL G n K I P)[r]? = some (G.2.2.1 + r, xE G K I P r) := by
  unfold xL; simp [h]
theorem xL_inv {G : xG} {n : Nat} {K : Nat → Nat × Nat} {I : Nat → Nat → Int32} {P : Nat → Nat → Option Nat} {r : Nat} {q : Nat × va_E} (h : (xL G n K I P)[r]? = some q) : r < n ∧ q = (G.2.2.1 + r, xE G K I P r) := by
  have hl : r < n := by
    have := (List.getElem?_eq_some_iff.mp h).1
    unfold xL at this; simpa using this
  rw [xL_get hl] at h
  exact ⟨hl, (Option.some.inj h).symm⟩
section RX
variable {G : xG} {n : Nat} {K : Nat → Nat × Nat} {I I' : Nat → Nat → Int32} {P P' : Nat → Nat → Option Nat} {H H1 : Heap} {r : Nat}
theorem xR.at (h : xR G n K I P H) (hr : r < n) : va_at G.1 xCl (G.2.2.1 + r, xE G K I P r) H := h.2.1 r _ (xL_get hr)
theorem xR.lt (h : xR G n K I P H) (hr : r < n) : r < 1000000 := Nat.lt_trans hr h.2.2.2.1
theorem va_P_one {D : va_G} {cl : List vw_C} {q : Nat × va_E} (h : va_at D cl q H) : va_P D cl [q] H := by
  intro k x hx
  have : k < 1 := (List.getElem?_eq_some_iff.mp hx).1
  rw [show k = 0 by omega] at hx
  cases hx
  exact h
theorem xR.S (h : xR G n K I P H) {locs : List Loc} (hl : ∀ q ∈ locs, xA G q.base) : va_S (xA G) G.2.2.2.2 H locs :=
  ⟨by rw [h.2.2.2.2.1, h.1]; omega, fun q _ hq => h.2.2.1 q (Nat.not_le.mp hq), hl⟩
/-- one cell is written -/
theorem xR.set (h : xR G n K I P H) (hr : r < n) (hz : H1.size = H.size) (ho : ∀ q : Nat, q ≠ G.2.2.1 + r → H1[q]? = H[q]?) (he : va_at G.1 xCl (G.2.2.1 + r, xE G K I' P' r) H1) (hE : ∀ q, q ≠ r → xE G K I' P' q = xE G K I P q) (hI : ∀ j, 1000000 ≤ j → I' j = I j) : xR G n K I' P' H1 := by
  refine ⟨hz.trans h.1, fun k q hk => ?_, fun q hq => (ho q (by omega)).trans (h.2.2.1 q hq), h.2.2.2.1, h.2.2.2.2.1, fun j hj => ?_⟩
  · obtain ⟨hl, rfl⟩ := xL_inv hk
    by_cases e : k = r
    · subst e; exact he
    · rw [hE k e]
      exact (h.at hl).kept (ho _ (by show G.2.2.1 + k ≠ G.2.2.1 + r; omega))
  · obtain ⟨h1, h2, h3⟩ := h.2.2.2.2.2 j hj
    refine ⟨h1, h2, ?_⟩
    rw [hI _ (by omega), ho _ (by omega)]
    exact h3
theorem xE_obj {c w : Nat} (hk : K r = (c, w)) (hc : c < 13) : xE G K I P r = .inr (c, (List.range (xN c)).map (xfv G I P c r)) := by
  unfold xE; rw [hk]; simp [hc]
theorem xE_int {c w : Nat} (hk : K r = (c, w)) (h1 : ¬ c < 13) (h2 : c < 15) : xE G K I P r = .inl (G.2.1 c, w, .inl (I r)) := by
  unfold xE; rw [hk]; simp [h1, h2]
theorem xE_ref {c w : Nat} (hk : K r = (c, w)) (h2 : ¬ c < 15) : xE G K I P r = .inl (G.2.1 c, w, .inr (.inr (.inr (.inr (fun j => (P r j).map (xmu G)))))) := by
  unfold xE; rw [hk]; simp [h2, show ¬ c < 13 by omega]
theorem xE_ne {q : Nat} (hI : I' q = I q) (hP : P' q = P q) : xE G K I' P' q = xE G K I P q := by
  have : xfv G I' P' (K q).1 q = xfv G I P (K q).1 q := by
    funext j; unfold xfv; rw [hI, hP]
  unfold xE
  rw [this, hI, hP]
theorem xu_ne {k q : Nat} {v : Int32} (h : q ≠ r) : xu I r k v q = I q := by unfold xu xrow; rw [if_neg h]
theorem xup_ne {k q : Nat} {o : Option Nat} (h : q ≠ r) : xup P r k o q = P q := by unfold xup; rw [if_neg h]
theorem xu_self {k : Nat} {v : Int32} : xu I r k v r = upd (I r) k v := by unfold xu xrow; rw [if_pos rfl]
theorem xup_self {k : Nat} {o : Option Nat} : xup P r k o r = va_up (P r) k o := by unfold xup; rw [if_pos rfl]
end RX
/-! the rules for the heap -/
section AX
variable {G : xG} {X : xC} {Y : MI} {d mc ms n : Nat} {K : Nat → Nat × Nat} {I : Nat → Nat → Int32} {P : Nat → Nat → Option Nat} {cells slots pc nx r : Nat} {lv st : List Value}
/-- a branch on a condition -/
theorem ax_ite {c : Prop} [Decidable c] {a b : Nat} (h1 : c → aW G X Y n K I P cells slots a lv st) (h2 : ¬ c → aW G X Y n K I P cells slots b lv st) : aW G X Y n K I P cells slots (if c then a else b) lv st := by
  by_cases h : c
  · rw [if_pos h]; exact h1 h
  · rw [if_neg h]; exact h2 h
def xis (Y : MI) (pc : Nat) (f : Instr → Bool) : Option Nat := match xlook Y.2.2.2.2.1 pc with
  | some e => bif f e.1 then some e.2.1 else none
  | none => none
theorem xis_some {f : Instr → Bool} (h : xis Y pc f = some nx) : ∃ ins a cs, xlook Y.2.2.2.2.1 pc = some (ins, nx, a, cs) ∧ f ins = true := by
  unfold xis at h
  split at h
  · next e he =>
    obtain ⟨ins, nx', a, cs⟩ := e
    by_cases hf : f ins = true
    · dsimp only at h; rw [hf] at h
      cases h
      exact ⟨ins, a, cs, he, hf⟩
    · dsimp only at h; rw [(Bool.not_eq_true _).mp hf] at h; cases h
  · cases h
def xq_idiv : Instr → Bool | .idiv => true | _ => false
def xq_irem : Instr → Bool | .irem => true | _ => false
def xq_iald : Instr → Bool | .iaload => true | _ => false
def xq_bald : Instr → Bool | .baload => true | _ => false
def xq_aald : Instr → Bool | .aaload => true | _ => false
def xq_iast : Instr → Bool | .iastore => true | _ => false
def xq_bast : Instr → Bool | .bastore => true | _ => false
def xq_aast : Instr → Bool | .aastore => true | _ => false
def xq_alen : Instr → Bool | .arraylength => true | _ => false
def xq_iret : Instr → Bool | .ireturn => true | _ => false
def xq_aret : Instr → Bool | .areturn => true | _ => false
def xq_ret : Instr → Bool | .return_ => true | _ => false
theorem xis_dec {f : Instr → Bool} {ins : Instr} (hY : xpOK Y = true) (h : xis Y pc f = some nx) (hf : ∀ i, f i = true → i = ins) (hl : xlen ins ≠ 0) : decode Y.2.1 pc = .ok (ins, xlen ins) ∧ nx = pc + xlen ins := by
  obtain ⟨i, a, cs, h1, h2⟩ := xis_some h
  have h3 := xdec hY h1
  rw [hf i h2] at h3
  have h4 : nx = pc + xlen ins := h3.2.2.1.resolve_left hl
  refine ⟨?_, h4⟩
  have h5 := h3.1
  rw [h4, Nat.add_sub_cancel_left] at h5
  exact h5
theorem ax_idiv {x y : Int32} (hX : xAmb G X Y d mc ms) (hY : xpOK Y = true) (hs : xis Y pc xq_idiv = some nx) (hy : ¬ y = 0) (kk : aW G X Y n K I P cells slots nx lv (.int (x / y) :: st)) : aW G X Y n K I P cells slots pc lv (.int y :: .int x :: st) := by
  obtain ⟨hd, rfl⟩ := xis_dec (ins := .idiv) hY hs (fun i h => by cases i <;> first | rfl | cases h) (by decide)
  exact fun H locs ls hR hlo hlv => lv_idiv hX.1 hX.2.1 hd hy (kk H locs ls hR hlo hlv)
theorem ax_irem {x y : Int32} (hX : xAmb G X Y d mc ms) (hY : xpOK Y = true) (hs : xis Y pc xq_irem = some nx) (hy : ¬ y = 0) (kk : aW G X Y n K I P cells slots nx lv (.int (x - x / y * y) :: st)) : aW G X Y n K I P cells slots pc lv (.int y :: .int x :: st) := by
  obtain ⟨hd, rfl⟩ := xis_dec (ins := .irem) hY hs (fun i h => by cases i <;> first | rfl | cases h) (by decide)
  exact fun H locs ls hR hlo hlv => lv_irem hX.1 hX.2.1 hd hy (kk H locs ls hR hlo hlv)
/-- int[] -/
theorem ax_iald {w : Nat} {i : Int32} (hX : xAmb G X Y d mc ms) (hY : xpOK Y = true) (hr : r < n) (hk : K r = (13, w)) (hs : xis Y pc xq_iald = some nx) (hi : vp_in i w) (kk : aW G X Y n K I P cells slots nx lv (.int (I r i.toNatClampNeg) :: st)) : aW G X Y n K I P cells slots pc lv (.int i :: .ref r :: st) := by
  obtain ⟨hd, rfl⟩ := xis_dec (ins := .iaload) hY hs (fun i h => by cases i <;> first | rfl | cases h) (by decide)
  intro H locs ls hR hlo hlv
  have ha := hR.at hr
  rw [xE_int hk (by decide) (by decide)] at ha
  have e1 : xv G (.ref r) = .ref (G.2.2.1 + r) := congrArg Value.ref (xmu_new (hR.lt hr))
  show W _ _ _ _ _ _ _ _ _ _ H locs cells slots _ (F0 _ pc ls (.int i :: xv G (.ref r) :: st.map (xv G)))
  rw [e1]
  exact va_iald hX.1 hX.2.1 hX.2.2.2.2.2.1.1 (va_P_one ha) 0 0 rfl rfl hi hd (kk H locs ls hR hlo hlv)
/-- the old int arrays -/
theorem ax_oald {w j : Nat} {i : Int32} (hX : xAmb G X Y d mc ms) (hY : xpOK Y = true) (hj : j < 2) (hk : (K (1000000 + j)).2 = w) (hs : xis Y pc xq_iald = some nx) (hi : vp_in i w) (kk : aW G X Y n K I P cells slots nx lv (.int (I (1000000 + j) i.toNatClampNeg) :: st)) : aW G X Y n K I P cells slots pc lv (.int i :: .ref (1000000 + j) :: st) := by
  obtain ⟨hd, rfl⟩ := xis_dec (ins := .iaload) hY hs (fun i h => by cases i <;> first | rfl | cases h) (by decide)
  intro H locs ls hR hlo hlv
  obtain ⟨h1, h2, cell, g1, g2, g3, g4, g5⟩ := hR.2.2.2.2.2 j hj
  rw [hk] at g3 g4 g5
  obtain ⟨cell', f1, f2⟩ := hX.2.2.2.2.2.1.2.2.2.2.2 j hj
  have e0 := hR.2.2.1 _ h1
  rw [g1, f1] at e0
  cases e0
  have e1 : xv G (.ref (1000000 + j)) = .ref (G.2.2.2.1 j) := by
    show Value.ref (xmu G (1000000 + j)) = _
    unfold xmu
    rw [if_neg (by omega), Nat.add_sub_cancel_left]
  show W _ _ _ _ _ _ _ _ _ _ H locs cells slots _ (F0 _ pc ls (.int i :: xv G (.ref (1000000 + j)) :: st.map (xv G)))
  rw [e1]
  have hlt : i.toNatClampNeg < w := Nat.not_le.mp fun q => hi (Or.inr q)
  refine W.iald (v := .int (I (1000000 + j) i.toNatClampNeg)) hX.1 hX.2.1 g1 f2 g2 ?_ (g5 _ hlt) rfl rfl hd (kk H locs ls hR hlo hlv)
  rintro (q | q)
  · exact hi (Or.inl q)
  · omega
theorem ax_olen {w j : Nat} (hX : xAmb G X Y d mc ms) (hY : xpOK Y = true) (hj : j < 2) (hk : (K (1000000 + j)).2 = w) (hs : xis Y pc xq_alen = some nx) (kk : aW G X Y n K I P cells slots nx lv (.int (nI w) :: st)) : aW G X Y n K I P cells slots pc lv (.ref (1000000 + j) :: st) := by
  obtain ⟨hd, rfl⟩ := xis_dec (ins := .arraylength) hY hs (fun i h => by cases i <;> first | rfl | cases h) (by decide)
  intro H locs ls hR hlo hlv
  obtain ⟨h1, h2, cell, g1, g2, g3, g4, g5⟩ := hR.2.2.2.2.2 j hj
  rw [hk] at g3 g4 g5
  obtain ⟨cell', f1, f2⟩ := hX.2.2.2.2.2.1.2.2.2.2.2 j hj
  have e0 := hR.2.2.1 _ h1
  rw [g1, f1] at e0
  cases e0
  have e1 : xv G (.ref (1000000 + j)) = .ref (G.2.2.2.1 j) := by
    show Value.ref (xmu G (1000000 + j)) = _
    unfold xmu
    rw [if_neg (by omega), Nat.add_sub_cancel_left]
  show W _ _ _ _ _ _ _ _ _ _ H locs cells slots _ (F0 _ pc ls (xv G (.ref (1000000 + j)) :: st.map (xv G)))
  rw [e1]
  exact W.alen (n := nI w) hX.1 hX.2.1 g1 f2 g4 rfl rfl hd (kk H locs ls hR hlo hlv)
theorem ax_bald {w : Nat} {i : Int32} (hX : xAmb G X Y d mc ms) (hY : xpOK Y = true) (hr : r < n) (hk : K r = (14, w)) (hs : xis Y pc xq_bald = some nx) (hi : vp_in i w) (kk : aW G X Y n K I P cells slots nx lv (.int (I r i.toNatClampNeg) :: st)) : aW G X Y n K I P cells slots pc lv (.int i :: .ref r :: st) := by
  obtain ⟨hd, rfl⟩ := xis_dec (ins := .baload) hY hs (fun i h => by cases i <;> first | rfl | cases h) (by decide)
  intro H locs ls hR hlo hlv
  have ha := hR.at hr
  rw [xE_int hk (by decide) (by decide)] at ha
  have e1 : xv G (.ref r) = .ref (G.2.2.1 + r) := congrArg Value.ref (xmu_new (hR.lt hr))
  show W _ _ _ _ _ _ _ _ _ _ H locs cells slots _ (F0 _ pc ls (.int i :: xv G (.ref r) :: st.map (xv G)))
  rw [e1]
  exact va_zald hX.1 hX.2.1 hX.2.2.2.2.2.1.1 (va_P_one ha) 0 1 rfl rfl hi hd (kk H locs ls hR hlo hlv)
theorem ax_alen {c w : Nat} (hX : xAmb G X Y d mc ms) (hY : xpOK Y = true) (hr : r < n) (hk : K r = (c, w)) (hc : c = 13 ∨ c = 15) (hs : xis Y pc xq_alen = some nx) (kk : aW G X Y n K I P cells slots nx lv (.int (nI w) :: st)) : aW G X Y n K I P cells slots pc lv (.ref r :: st) := by
  obtain ⟨hd, rfl⟩ := xis_dec (ins := .arraylength) hY hs (fun i h => by cases i <;> first | rfl | cases h) (by decide)
  intro H locs ls hR hlo hlv
  have ha := hR.at hr
  have e1 : xv G (.ref r) = .ref (G.2.2.1 + r) := congrArg Value.ref (xmu_new (hR.lt hr))
  show W _ _ _ _ _ _ _ _ _ _ H locs cells slots _ (F0 _ pc ls (xv G (.ref r) :: st.map (xv G)))
  rw [e1]
  rcases hc with rfl | rfl
  · rw [xE_int hk (by decide) (by decide)] at ha
    exact va_alen hX.1 hX.2.1 hX.2.2.2.2.2.1.1 (va_P_one ha) 0 0 rfl (ty := .int) rfl rfl hd (kk H locs ls hR hlo hlv)
  · rw [xE_ref hk (by decide)] at ha
    exact va_alen hX.1 hX.2.1 hX.2.2.2.2.2.1.1 (va_P_one ha) 0 2 rfl (ty := .object "HandOverHorse$Stroke") rfl rfl hd (kk H locs ls hR hlo hlv)
theorem xTys_at (G : xG) {c : Nat} (h1 : 15 ≤ c) (h2 : c < 18) : ∃ t, (xTys G)[c - 13]? = some (G.2.1 c, t) ∧ t.isReference = true := by
  rcases (show c = 15 ∨ c = 16 ∨ c = 17 by omega) with rfl | rfl | rfl <;> exact ⟨_, rfl, rfl⟩
/-- an array of references: what stands there is a cell -/
theorem ax_aald {c w q : Nat} {i : Int32} (hX : xAmb G X Y d mc ms) (hY : xpOK Y = true) (hr : r < n) (hk : K r = (c, w)) (hc : 15 ≤ c ∧ c < 18) (hs : xis Y pc xq_aald = some nx) (hi : vp_in i w) (hq : P r i.toNatClampNeg = some q) (kk : aW G X Y n K I P cells slots nx lv (.ref q :: st)) : aW G X Y n K I P cells slots pc lv (.int i :: .ref r :: st) := by
  obtain ⟨hd, rfl⟩ := xis_dec (ins := .aaload) hY hs (fun i h => by cases i <;> first | rfl | cases h) (by decide)
  intro H locs ls hR hlo hlv
  have ha := hR.at hr
  rw [xE_ref hk (by omega)] at ha
  have ha2 : H[G.2.2.1 + r]? = some (arrV (G.2.1 c) w (fun j => va_rf ((P r j).map (xmu G)))) := ha
  have e1 : xv G (.ref r) = .ref (G.2.2.1 + r) := congrArg Value.ref (xmu_new (hR.lt hr))
  show W _ _ _ _ _ _ _ _ _ _ H locs cells slots _ (F0 _ pc ls (.int i :: xv G (.ref r) :: st.map (xv G)))
  rw [e1]
  have hlt : i.toNatClampNeg < w := Nat.not_le.mp fun q => hi (Or.inr q)
  obtain ⟨t, ht, hrf⟩ := xTys_at G hc.1 hc.2
  refine W.aald (v := .ref (xmu G q)) (ty := t) hX.1 hX.2.1 ha2 ((hX.2.2.2.2.2.1.1.2 (c - 13) _ ht).1 w (fun j => va_rf ((P r j).map (xmu G)))) hrf (fun q => by cases q) (by rw [arrV_size]; exact hi) ?_ rfl rfl hd (kk H locs ls hR hlo hlv)
  rw [arrV_read _ _ hlt, hq]
  rfl
theorem ax_iast {w : Nat} {i x : Int32} (hX : xAmb G X Y d mc ms) (hY : xpOK Y = true) (hr : r < n) (hk : K r = (13, w)) (hs : xis Y pc xq_iast = some nx) (hi : vp_in i w) (kk : aW G X Y n K (xu I r i.toNatClampNeg x) P cells slots nx lv st) : aW G X Y n K I P cells slots pc lv (.int x :: .int i :: .ref r :: st) := by
  obtain ⟨hd, rfl⟩ := xis_dec (ins := .iastore) hY hs (fun i h => by cases i <;> first | rfl | cases h) (by decide)
  intro H locs ls hR hlo hlv
  have ha := hR.at hr
  rw [xE_int hk (by decide) (by decide)] at ha
  have ha2 : H[G.2.2.1 + r]? = some (arrV (G.2.1 13) w (fun j => .int (I r j))) := ha
  have e1 : xv G (.ref r) = .ref (G.2.2.1 + r) := congrArg Value.ref (xmu_new (hR.lt hr))
  show W _ _ _ _ _ _ _ _ _ _ H locs cells slots _ (F0 _ pc ls (.int x :: .int i :: xv G (.ref r) :: st.map (xv G)))
  rw [e1]
  refine W.iast hX.1 hX.2.1 ha2 ((hX.2.2.2.2.2.1.1.2 0 _ rfl).1 w (fun j => .int (I r j))) (fun q => by cases q) (by rw [arrV_size]; exact hi) rfl rfl hd fun H1 e z oq => ?_
  refine kk H1 _ ls (hR.set hr z oq ?_ (fun q hq => xE_ne (xu_ne hq) rfl) (fun j hj => xu_ne (by have := hR.lt hr; omega))) (t_lc hlo (by show G.2.2.1 ≤ _; omega)) hlv
  rw [xE_int hk (by decide) (by decide), xu_self]
  show H1[G.2.2.1 + r]? = some (vp_cell _ _)
  rw [e, vp_cell_i, arrV_store]
  congr 2
  funext q
  by_cases hq : q = i.toNatClampNeg
  · subst hq
    simp [updV, upd]
  · simp [updV, upd, hq]
theorem ax_bast {w : Nat} {i x : Int32} (hX : xAmb G X Y d mc ms) (hY : xpOK Y = true) (hr : r < n) (hk : K r = (14, w)) (hs : xis Y pc xq_bast = some nx) (hi : vp_in i w) (kk : aW G X Y n K (xu I r i.toNatClampNeg (vp_nar .boolean x)) P cells slots nx lv st) : aW G X Y n K I P cells slots pc lv (.int x :: .int i :: .ref r :: st) := by
  obtain ⟨hd, rfl⟩ := xis_dec (ins := .bastore) hY hs (fun i h => by cases i <;> first | rfl | cases h) (by decide)
  intro H locs ls hR hlo hlv
  have ha := hR.at hr
  rw [xE_int hk (by decide) (by decide)] at ha
  have ha2 : H[G.2.2.1 + r]? = some (arrV (G.2.1 14) w (fun j => .int (I r j))) := ha
  have e1 : xv G (.ref r) = .ref (G.2.2.1 + r) := congrArg Value.ref (xmu_new (hR.lt hr))
  show W _ _ _ _ _ _ _ _ _ _ H locs cells slots _ (F0 _ pc ls (.int x :: .int i :: xv G (.ref r) :: st.map (xv G)))
  rw [e1]
  refine W.zast hX.1 hX.2.1 ha2 ((hX.2.2.2.2.2.1.1.2 1 _ rfl).1 w (fun j => .int (I r j))) (fun q => by cases q) (by rw [arrV_size]; exact hi) rfl rfl hd fun H1 e z oq => ?_
  refine kk H1 _ ls (hR.set hr z oq ?_ (fun q hq => xE_ne (xu_ne hq) rfl) (fun j hj => xu_ne (by have := hR.lt hr; omega))) (t_lc hlo (by show G.2.2.1 ≤ _; omega)) hlv
  rw [xE_int hk (by decide) (by decide), xu_self]
  show H1[G.2.2.1 + r]? = some (vp_cell _ _)
  rw [e, vp_cell_i, arrV_store]
  congr 2
  funext q
  by_cases hq : q = i.toNatClampNeg
  · subst hq
    simp [updV, upd, vp_nar]
    try rfl
  · simp [updV, upd, hq]
end AX
end
section
/-! fields, new cells, returns, contracts, calls -/
section AF
variable {G : xG} {X : xC} {Y : MI} {d mc ms n : Nat} {K : Nat → Nat × Nat} {I : Nat → Nat → Int32} {P : Nat → Nat → Option Nat} {cells slots pc nx r : Nat} {lv st : List Value}
def xgf (Y : MI) (pc c : Nat) : Option (Nat × Nat) := match xlook Y.2.2.2.2.1 pc with
  | some (.getfield idx, nx, _, _) => match xfk Y.2.2.2.2.2 idx c with
    | some k => some (k, nx)
    | none => none
  | _ => none
def xpf (Y : MI) (pc c : Nat) : Option (Nat × Nat) := match xlook Y.2.2.2.2.1 pc with
  | some (.putfield idx, nx, _, _) => match xfk Y.2.2.2.2.2 idx c with
    | some k => some (k, nx)
    | none => none
  | _ => none
theorem xgf_some {c k : Nat} (h : xgf Y pc c = some (k, nx)) : ∃ idx a cs, xlook Y.2.2.2.2.1 pc = some (.getfield idx, nx, a, cs) ∧ xfk Y.2.2.2.2.2 idx c = some k := by
  unfold xgf at h
  split at h
  · next idx nx' a cs he =>
    split at h
    · next k' hk => cases h; exact ⟨idx, a, cs, he, hk⟩
    · cases h
  · cases h
theorem xpf_some {c k : Nat} (h : xpf Y pc c = some (k, nx)) : ∃ idx a cs, xlook Y.2.2.2.2.1 pc = some (.putfield idx, nx, a, cs) ∧ xfk Y.2.2.2.2.2 idx c = some k := by
  unfold xpf at h
  split at h
  · next idx nx' a cs he =>
    split at h
    · next k' hk => cases h; exact ⟨idx, a, cs, he, hk⟩
    · cases h
  · cases h
theorem ax_get {c w k : Nat} {v : Value} (hX : xAmb G X Y d mc ms) (hY : xpOK Y = true) (hC : Y.1.cls = xcn Y.2.2.2.2.2) (hr : r < n) (hk : K r = (c, w)) (hs : xgf Y pc c = some (k, nx)) (hv : xfv G I P c r k = xv G v) (kk : aW G X Y n K I P cells slots nx lv (v :: st)) : aW G X Y n K I P cells slots pc lv (.ref r :: st) := by
  obtain ⟨idx, a, cs, h1, h2⟩ := xgf_some hs
  obtain ⟨hd, -, hlen, -⟩ := xdec hY h1
  obtain ⟨hc, hkN, ref, hlink, hsame⟩ := xfk_ok h2
  obtain rfl : nx = pc + 3 := by simpa [xlen] using hlen
  rw [Nat.add_sub_cancel_left] at hd
  intro H locs ls hR hlo hlv
  have ha := hR.at hr
  rw [xE_obj hk hc] at ha
  have e1 : xv G (.ref r) = .ref (G.2.2.1 + r) := congrArg Value.ref (xmu_new (hR.lt hr))
  show W _ _ _ _ _ _ _ _ _ _ H locs cells slots _ (F0 _ pc ls (xv G (.ref r) :: st.map (xv G)))
  rw [e1]
  have hown := hX.2.2.2.1
  rw [hC] at hown
  refine va_get (own := xcn Y.2.2.2.2.2) (ref := ref) (C := xcn c) (T := xTc c) (N := xN c) (ci := c) (Ts := xw) (index := idx) hX.1 hX.2.1 hX.2.2.2.2.1 (xi_all hc) hown hX.2.2.2.2.2.1.1 (va_P_one ha) 0 rfl (xCl_get hc) k hkN (hX.2.2.2.2.1 _ hlink) ?_ (v := xv G v) ?_ hd (kk H locs ls hR hlo hlv)
  · intro x hx
    rcases hsame with h | h
    · rw [h]; exact hx
    · exact u_same (hX.2.2.2.2.1 _ h) x hx
  · rw [← hv]; simp [hkN]
theorem xfv_int {c k : Nat} (h : xty c k = .int ∨ xty c k = .boolean) : xfv G I P c r k = .int (I r k) := by
  unfold xfv; rcases h with h | h <;> rw [h]
theorem xfv_ref {c k q : Nat} (h : (xty c k).isReference = true) (hp : P r k = some q) : xfv G I P c r k = xv G (.ref q) := by
  unfold xfv
  cases hx : xty c k <;> rw [hx] at h <;> first | (cases h; done) | (rw [hp]; rfl)
/-- a field is written: the machine's side -/
theorem xa_put {c w k : Nat} {v : Value} {I' : Nat → Nat → Int32} {P' : Nat → Nat → Option Nat} (hX : xAmb G X Y d mc ms) (hY : xpOK Y = true) (hC : Y.1.cls = xcn Y.2.2.2.2.2) (hr : r < n) (hk : K r = (c, w)) (hs : xpf Y pc c = some (k, nx))
    (hfin : (xTc c k).2.2.2 = false ∨ ((xTc c k).2.2.2 = true ∧ Y.1.name = "<init>" ∧ (xTc c k).1 = Y.1.cls)) (hn : narrow (xty c k) (xv G v) = xv G v) (hfit : fits (xty c k) (xv G v) = true)
    (hv : ∀ j, j < xN c → xfv G I' P' c r j = if j = k then xv G v else xfv G I P c r j) (hE : ∀ q, q ≠ r → xE G K I' P' q = xE G K I P q) (hI : r < 1000000 → ∀ j, 1000000 ≤ j → I' j = I j)
    (kk : aW G X Y n K I' P' cells slots nx lv st) : aW G X Y n K I P cells slots pc lv (v :: .ref r :: st) := by
  obtain ⟨idx, a, cs, h1, h2⟩ := xpf_some hs
  obtain ⟨hd, -, hlen, -⟩ := xdec hY h1
  obtain ⟨hc, hkN, ref, hlink, hsame⟩ := xfk_ok h2
  obtain rfl : nx = pc + 3 := by simpa [xlen] using hlen
  rw [Nat.add_sub_cancel_left] at hd
  intro H locs ls hR hlo hlv
  have ha := hR.at hr
  rw [xE_obj hk hc] at ha
  have e1 : xv G (.ref r) = .ref (G.2.2.1 + r) := congrArg Value.ref (xmu_new (hR.lt hr))
  show W _ _ _ _ _ _ _ _ _ _ H locs cells slots _ (F0 _ pc ls (xv G v :: xv G (.ref r) :: st.map (xv G)))
  rw [e1]
  have hown := hX.2.2.2.1
  have hts := hX.2.2.2.2.1
  have hK := hX.2.2.2.2.2.1.1
  have hlink' := hts _ hlink
  rw [← hC] at hlink'
  have hap := va_apart (own := Y.1.cls) hts (xi_all hc) (xty c) (xtk_all hc) (xn_all hc) hK (xCl_get hc)
  have hsm : ∀ x, X.2.2.2.2.1.fieldFound? (xTc c k).1 (xTc c k).2.1 (xTc c k).2.2.1 = some x → X.2.2.2.2.1.fieldFound? ref (xTc c k).2.1 (xTc c k).2.2.1 = some x := by
    intro x hx
    rcases hsame with h | h
    · rw [h]; exact hx
    · exact u_same (hts _ h) x hx
  obtain ⟨rr, g1, cell, q1, q2, q3, q4⟩ := ha
  have hrr : rr = (xcn c, xTc c, xN c) := Option.some.inj (g1.symm.trans (xCl_get hc))
  subst hrr
  obtain ⟨hS, hfc, kC, hkC, hkind⟩ := hK.1 c _ (xCl_get hc)
  obtain ⟨cf, kf, fi, f, hi, hsl⟩ := hS k hkN
  have hst := (u_facts hfc hkC (u_lays hts (xi_all hc) hkN) hi).1
  have hlen2 : k < ((List.range (xN c)).map (xfv G I P c r)).length := by simpa using hkN
  have fin : ∀ H1 : Heap, H1[G.2.2.1 + r]? = some (cell.setSlot f.slot (xv G v)) → H1.size = H.size → (∀ q, q ≠ G.2.2.1 + r → H1[q]? = H[q]?) → xR G n K I' P' H1 := by
    intro H1 f1 f2 f3
    rw [hsl] at f1
    refine hR.set hr f2 f3 ?_ hE (hI (hR.lt hr))
    rw [xE_obj hk hc]
    refine ⟨_, xCl_get hc, t_OB.to (V := updV (vp_V ((List.range (xN c)).map (xfv G I P c r))) k (xv G v)) ⟨_, f1, q2, q3, t_set q4 hap hkN _⟩ (fun j hj => ?_)⟩
    rw [vp_updV_set hlen2]
    unfold vp_V
    have hjN : j < xN c := hj
    rw [List.getD_eq_getElem?_getD, List.getD_eq_getElem?_getD, List.getElem?_set]
    simp only [List.getElem?_map, List.getElem?_range hjN, List.length_map, List.length_range, Option.map_some, Option.getD_some]
    rw [hv j hjN]
    by_cases hjk : j = k
    · subst hjk; simp [hkN]
    · simp [hjk, Ne.symm hjk]
  rcases hfin with hf0 | ⟨hf1, hini, hdecl⟩
  · have hlay := hts _ (xi_all hc _ (u_in_lay hkN))
    unfold u_lay at hlay
    rw [if_neg (by rw [hf0]; decide)] at hlay
    have h6 := u_store hfc hkC hkind hlay hi (xtk_all hc k hkN) hn hfit
    exact W.putK hX.1 hX.2.1 (f := f) ⟨hown, hlink', ⟨_, _, _, hsm _ hi⟩, hst⟩ (by rw [q2]; exact h6) q1 q3 (by rw [hsl]; exact k2_hasslot (q4 k hkN)) rfl rfl hd fun H1 f1 f2 f3 => kk H1 _ ls (fin H1 f1 f2 f3) (t_lc hlo (by show G.2.2.1 ≤ _; omega)) hlv
  · have hlay := hts _ (xi_all hc _ (u_in_lay hkN))
    unfold u_lay at hlay
    rw [if_pos hf1] at hlay
    have hcf : X.2.2.2.2.2.1.cls = cf := by
      obtain ⟨_, _, c', _, _, _, -, -, hf', -, -, -, hown2, -⟩ := Cond.laysFinal_spec hlay
      have e1 : c' = cf := by have := hi.symm.trans hf'; simp at this; exact this.1.symm
      rw [hdecl] at hown2
      rw [← e1]; exact Option.some.inj (hown.symm.trans hown2)
    have h6 := u_fits hfc hkC hkind (Or.inr hlay) hi (xtk_all hc k hkN) hn hfit
    exact W.putFinK hX.1 hX.2.1 hown hlink' (hsm _ hi) hst hcf (hX.2.2.2.2.2.2.2.2.2.2.trans hini) (by rw [q2]; exact h6) q1 q3 (by rw [hsl]; exact k2_hasslot (q4 k hkN)) rfl rfl hd fun H1 f1 f2 f3 => kk H1 _ ls (fin H1 f1 f2 f3) (t_lc hlo (by show G.2.2.1 ≤ _; omega)) hlv
theorem ax_puti {c w k : Nat} {x : Int32} (hX : xAmb G X Y d mc ms) (hY : xpOK Y = true) (hC : Y.1.cls = xcn Y.2.2.2.2.2) (hr : r < n) (hk : K r = (c, w)) (hs : xpf Y pc c = some (k, nx))
    (hfin : (xTc c k).2.2.2 = false) (ht : xty c k = .int ∨ (xty c k = .boolean ∧ (x = 0 ∨ x = 1))) (kk : aW G X Y n K (xu I r k x) P cells slots nx lv st) : aW G X Y n K I P cells slots pc lv (.int x :: .ref r :: st) := by
  refine xa_put (v := .int x) (I' := xu I r k x) (P' := P) hX hY hC hr hk hs (Or.inl hfin) ?_ ?_ (fun j hj => ?_) (fun q hq => xE_ne (xu_ne hq) rfl) (fun h j hj => xu_ne (by omega)) kk
  · rcases ht with h | ⟨h, h2⟩
    · rw [h]; rfl
    · rw [h]; rcases h2 with rfl | rfl <;> rfl
  · rcases ht with h | ⟨h, h2⟩
    · rw [h]; rfl
    · rw [h]; rcases h2 with rfl | rfl <;> rfl
  · by_cases hjk : j = k
    · subst hjk
      rw [if_pos rfl]
      rw [xfv_int (by rcases ht with h | h; exact Or.inl h; exact Or.inr h.1), xu_self]
      simp [upd]; rfl
    · rw [if_neg hjk]
      unfold xfv
      rw [xu_self]
      simp [upd, hjk]
theorem ax_putp {c w k q : Nat} (hX : xAmb G X Y d mc ms) (hY : xpOK Y = true) (hC : Y.1.cls = xcn Y.2.2.2.2.2) (hr : r < n) (hk : K r = (c, w)) (hs : xpf Y pc c = some (k, nx))
    (hfin : (xTc c k).2.2.2 = false ∨ ((xTc c k).2.2.2 = true ∧ Y.1.name = "<init>" ∧ (xTc c k).1 = Y.1.cls)) (ht : (xty c k).isReference = true) (kk : aW G X Y n K I (xup P r k (some q)) cells slots nx lv st) : aW G X Y n K I P cells slots pc lv (.ref q :: .ref r :: st) := by
  refine xa_put (v := .ref q) (I' := I) (P' := xup P r k (some q)) hX hY hC hr hk hs hfin ?_ ?_ (fun j hj => ?_) (fun q hq => xE_ne rfl (xup_ne hq)) (fun _ _ _ => rfl) kk
  · cases hx : xty c k <;> rw [hx] at ht <;> first | (cases ht; done) | rfl
  · cases hx : xty c k <;> rw [hx] at ht <;> first | (cases ht; done) | rfl
  · by_cases hjk : j = k
    · subst hjk
      rw [if_pos rfl]
      exact xfv_ref ht (by rw [xup_self]; simp [va_up])
    · rw [if_neg hjk]
      unfold xfv
      rw [xup_self]
      simp [va_up, hjk]
/-- a reference is put into an array of STROKES or TEXTS -/
theorem ax_aast {c w q cq wq : Nat} {i : Int32} {E : String} (hX : xAmb G X Y d mc ms) (hY : xpOK Y = true) (hr : r < n) (hk : K r = (c, w)) (hq : q < n) (hkq : K q = (cq, wq)) (hcq : cq < 13)
    (hE : (c = 15 ∧ E = "HandOverHorse$Stroke") ∨ (c = 16 ∧ E = "HandOverHorse$Text")) (hca : xcn cq = E ∨ Cond.castable (xcn cq) E ∈ xw) (hs : xis Y pc xq_aast = some nx) (hi : vp_in i w) (kk : aW G X Y n K I (xup P r i.toNatClampNeg (some q)) cells slots nx lv st) : aW G X Y n K I P cells slots pc lv (.ref q :: .int i :: .ref r :: st) := by
  obtain ⟨hd, rfl⟩ := xis_dec (ins := .aastore) hY hs (fun i h => by cases i <;> first | rfl | cases h) (by decide)
  intro H locs ls hR hlo hlv
  have ha := hR.at hr
  rw [xE_ref hk (by omega)] at ha
  have ha2 : H[G.2.2.1 + r]? = some (arrV (G.2.1 c) w (fun j => va_rf ((P r j).map (xmu G)))) := ha
  have hv := hR.at hq
  rw [xE_obj hkq hcq] at hv
  have e1 : xv G (.ref r) = .ref (G.2.2.1 + r) := congrArg Value.ref (xmu_new (hR.lt hr))
  have e2 : xv G (.ref q) = .ref (G.2.2.1 + q) := congrArg Value.ref (xmu_new (hR.lt hq))
  show W _ _ _ _ _ _ _ _ _ _ H locs cells slots _ (F0 _ pc ls (xv G (.ref q) :: .int i :: xv G (.ref r) :: st.map (xv G)))
  rw [e1, e2]
  have hK := hX.2.2.2.2.2.1.1
  have hts := hX.2.2.2.2.1
  have hlt : i.toNatClampNeg < w := Nat.not_le.mp fun q => hi (Or.inr q)
  have h0 : ¬ i < 0 := fun q => hi (Or.inl q)
  obtain ⟨r', hr', cellV, g1, g2, g3, -⟩ := hv
  have hcls := (hK.1 cq _ (xCl_get hcq)).2
  have hty : ∃ t0 : Nat, (xTys G)[t0]? = some (G.2.1 c, FieldType.object E) := by
    rcases hE with ⟨rfl, rfl⟩ | ⟨rfl, rfl⟩
    · exact ⟨2, rfl⟩
    · exact ⟨3, rfl⟩
  obtain ⟨t0, ht0⟩ := hty
  obtain ⟨kA, comp, k1, k2, k3, -⟩ := (hK.2 t0 _ ht0).2
  obtain ⟨kE, hkE, -⟩ := Vm.findClass_spec k3
  obtain ⟨kC, hkC, hkd⟩ := hcls.2
  have hasg : X.2.2.2.2.1.vm.assignable cellV.cls comp = true := by
    rw [g2]
    rcases hca with h | h
    · have : comp = G.1.1 cq := Option.some.inj (k3.symm.trans (h ▸ hcls.1))
      rw [this]
      exact va_assign hcls
    · obtain ⟨c0, t1, f1, f2, f3⟩ := Cond.castable_spec (hts _ h)
      cases hcls.1.symm.trans f1
      cases k3.symm.trans f2
      exact f3
  refine W.aast hX.1 hX.2.1 ha2 (fun q h => by cases h) (fun h => by cases h) k1 k2 rfl hkE ⟨h0, by rw [arrV_size]; exact hlt⟩ g1 (fun q h => by rw [g3] at h; cases h) (by rw [g2]; exact hkC) hasg rfl rfl hd fun H1 e z oq => ?_
  refine kk H1 _ ls (hR.set hr z oq ?_ (fun q hq => xE_ne rfl (xup_ne hq)) (fun _ _ => rfl)) (t_lc hlo (by show G.2.2.1 ≤ _; omega)) hlv
  rw [xE_ref hk (by omega), xup_self]
  show H1[G.2.2.1 + r]? = some (vp_cell _ _)
  rw [e, vp_cell_q, arrV_store]
  congr 2
  funext j
  by_cases hj : j = i.toNatClampNeg
  · subst hj
    simp [updV, va_up, va_rf, xmu_new (hR.lt hq)]
  · simp [updV, va_up, hj]
end AF
end
section
/-! new cells, contracts, returns, calls -/
def xprow (P : Nat → Nat → Option Nat) (r : Nat) (f : Nat → Option Nat) : Nat → Nat → Option Nat := fun a => if a = r then f else P a
def xkup (K : Nat → Nat × Nat) (r : Nat) (v : Nat × Nat) : Nat → Nat × Nat := fun a => if a = r then v else K a
theorem xrow_ne {I : Nat → Nat → Int32} {r q : Nat} {f : Nat → Int32} (h : q ≠ r) : xrow I r f q = I q := if_neg h
theorem xrow_self {I : Nat → Nat → Int32} {r : Nat} {f : Nat → Int32} : xrow I r f r = f := if_pos rfl
theorem xprow_ne {P : Nat → Nat → Option Nat} {r q : Nat} {f : Nat → Option Nat} (h : q ≠ r) : xprow P r f q = P q := if_neg h
theorem xprow_self {P : Nat → Nat → Option Nat} {r : Nat} {f : Nat → Option Nat} : xprow P r f r = f := if_pos rfl
section AN
variable {G : xG} {X : xC} {Y : MI} {d mc ms n : Nat} {K K' : Nat → Nat × Nat} {I : Nat → Nat → Int32} {P : Nat → Nat → Option Nat} {cells slots pc nx r : Nat} {lv st : List Value}
theorem xR.push {I' : Nat → Nat → Int32} {P' : Nat → Nat → Option Nat} {H H1 : Heap} (h : xR G n K I P H) (hz : H1.size = H.size + 1) (ho : ∀ q : Nat, q < H.size → H1[q]? = H[q]?) (he : va_at G.1 xCl (G.2.2.1 + n, xE G K' I' P' n) H1) (hE : ∀ q, q ≠ n → K' q = K q ∧ I' q = I q ∧ P' q = P q) (hn : n + 1 < 1000000) : xR G (n + 1) K' I' P' H1 := by
  have hsz := h.1
  refine ⟨by omega, fun k q hk => ?_, fun q hq => (ho q (by omega)).trans (h.2.2.1 q hq), hn, h.2.2.2.2.1, fun j hj => ?_⟩
  · obtain ⟨hl, rfl⟩ := xL_inv hk
    by_cases e : k = n
    · subst e; exact he
    · have hlt : k < n := by omega
      obtain ⟨e1, e2, e3⟩ := hE k e
      have : xE G K' I' P' k = xE G K I P k := by
        have h2 := xE_ne (G := G) (K := K') (I := I) (I' := I') (P := P) (P' := P') e2 e3
        rw [h2]; unfold xE; rw [e1]
      rw [this]
      exact (h.at hlt).kept (ho _ (by show G.2.2.1 + k < H.size; omega))
  · obtain ⟨h1, h2, h3⟩ := h.2.2.2.2.2 j hj
    obtain ⟨e1, e2, -⟩ := hE (1000000 + j) (by omega)
    refine ⟨h1, by rw [e1]; exact h2, ?_⟩
    rw [e1, e2, ho _ (by omega)]
    exact h3
/-- new: an object of class c -/
theorem ax_new {c w : Nat} (hX : xAmb G X Y d mc ms) (hY : xpOK Y = true) {idx a : Nat} {cs : List (Int32 × Nat)} (hs : xlook Y.2.2.2.2.1 pc = some (.new idx, nx, a, cs)) (hc : c < 13) (hw : Cond.classLink Y.1.cls idx (xcn c) ∈ xw ∧ Cond.instantiable (xcn c) (xN c) ∈ xw ∧ Cond.initialized (xcn c) ∈ xw)
    (hk : K' n = (c, w)) (hK' : ∀ q, q ≠ n → K' q = K q) (hn : n + 1 < 1000000) (hm : cells + 1 ≤ mc ∧ slots + xN c ≤ ms)
    (kk : aW G X Y (n + 1) K' (xrow I n (fun _ => 0)) (xprow P n (fun _ => none)) (cells + 1) (slots + xN c) nx lv (.ref n :: st)) : aW G X Y n K I P cells slots pc lv st := by
  obtain ⟨hd, -, hlen, -⟩ := xdec hY hs
  obtain rfl : nx = pc + 3 := by simpa [xlen] using hlen
  rw [Nat.add_sub_cancel_left] at hd
  intro H locs ls hR hlo hlv
  have hts := hX.2.2.2.2.1
  have hK := hX.2.2.2.2.2.1.1
  have hKn := hK.1 c _ (xCl_get hc)
  have hsz := hR.1
  refine W.newcK hX.1 hX.2.1 hX.2.2.2.1 (hts _ hw.1) (hts _ hw.2.1) (hts _ hw.2.2) rfl hd (Nat.le_trans hm.1 hX.2.2.2.2.2.2.2.2.1) (Nat.le_trans hm.2 hX.2.2.2.2.2.2.2.2.2.1) hKn.2.1 hR.1 fun H1 kC hkC e1 z1 o1 => ?_
  have hat : va_at G.1 xCl (G.2.2.1 + n, xE G K' (xrow I n (fun _ => 0)) (xprow P n (fun _ => none)) n) H1 := by
    rw [xE_obj hk hc]
    refine ⟨_, xCl_get hc, (u_born (xty c) hts (xi_all hc) hKn hkC e1 (xtk_all hc)).to (fun j hj => ?_)⟩
    unfold vp_V
    have hjN : j < xN c := hj
    rw [List.getD_eq_getElem?_getD]
    simp only [List.getElem?_map, List.getElem?_range hjN, Option.map_some, Option.getD_some]
    have hty : xty c j = .int ∨ xty c j = .boolean ∨ (xty c j).isReference = true := by
      rcases (show c = 0 ∨ c = 1 ∨ c = 2 ∨ c = 3 ∨ c = 4 ∨ c = 5 ∨ c = 6 ∨ c = 7 ∨ c = 8 ∨ c = 9 ∨ c = 10 ∨ c = 11 ∨ c = 12 by omega) with rfl | rfl | rfl | rfl | rfl | rfl | rfl | rfl | rfl | rfl | rfl | rfl | rfl <;>
        (revert j; decide)
    unfold xfv
    rw [xrow_self, xprow_self]
    rcases hty with h | h | h
    · rw [h]; rfl
    · rw [h]; rfl
    · cases hx : xty c j <;> rw [hx] at h <;> first | (cases h; done) | rfl
  have hR' : xR G (n + 1) K' (xrow I n (fun _ => 0)) (xprow P n (fun _ => none)) H1 := hR.push (by omega) (fun q hq => o1 q (by omega)) hat (fun q hq => ⟨hK' q hq, xrow_ne hq, xprow_ne hq⟩) hn
  have k2 := kk H1 locs ls hR' hlo hlv
  have e3 : xv G (.ref n) = .ref (G.2.2.1 + n) := congrArg Value.ref (xmu_new (by omega))
  rw [List.map_cons, e3] at k2
  exact k2
/-- newarray: ints or booleans -/
theorem ax_newa {c : Nat} {at_ : ArrayType} {x : Int32} {w : Nat} (hX : xAmb G X Y d mc ms) (hY : xpOK Y = true) {a : Nat} {cs : List (Int32 × Nat)} (hs : xlook Y.2.2.2.2.1 pc = some (.newarray at_, nx, a, cs)) (hat_ : (c = 13 ∧ at_ = .int) ∨ (c = 14 ∧ at_ = .boolean)) (hw : Cond.arrayClass (newarray.typeOf at_) ∈ xw)
    (hx0 : ¬ x < 0) (hxw : x.toNatClampNeg = w) (hwl : w ≤ 10000) (hk : K' n = (c, w)) (hK' : ∀ q, q ≠ n → K' q = K q) (hn : n + 1 < 1000000) (hm : cells + 1 ≤ mc ∧ slots + w ≤ ms)
    (kk : aW G X Y (n + 1) K' (xrow I n (fun _ => 0)) (xprow P n (fun _ => none)) (cells + 1) (slots + w) nx lv (.ref n :: st)) : aW G X Y n K I P cells slots pc lv (.int x :: st) := by
  obtain ⟨hd, -, hlen, -⟩ := xdec hY hs
  obtain rfl : nx = pc + 2 := by simpa [xlen] using hlen
  rw [Nat.add_sub_cancel_left] at hd
  intro H locs ls hR hlo hlv
  have hts := hX.2.2.2.2.1
  have hK := hX.2.2.2.2.2.1.1
  have hsz := hR.1
  refine va_newaK hX.1 hX.2.1 (hts _ hw) rfl hd rfl hx0 hxw (by rcases hat_ with ⟨-, rfl⟩ | ⟨-, rfl⟩ <;> simp [newarray.typeOf, componentBytes] <;> omega) (Nat.le_trans hm.1 hX.2.2.2.2.2.2.2.2.1) (Nat.le_trans hm.2 hX.2.2.2.2.2.2.2.2.2.1) hR.1 fun H1 cA e1 z1 o1 hAr hNm => ?_
  have hcA : cA = G.2.1 c := by
    rcases hat_ with ⟨rfl, rfl⟩ | ⟨rfl, rfl⟩
    · exact Option.some.inj (hNm.symm.trans (hK.2 0 _ rfl).2)
    · exact Option.some.inj (hNm.symm.trans (hK.2 1 _ rfl).2)
  have hat : va_at G.1 xCl (G.2.2.1 + n, xE G K' (xrow I n (fun _ => 0)) (xprow P n (fun _ => none)) n) H1 := by
    rw [xE_int hk (by omega) (by omega), xrow_self]
    show H1[G.2.2.1 + n]? = some (arrV (G.2.1 c) w (fun _ => .int 0))
    rw [e1, hcA]
    rcases hat_ with ⟨-, rfl⟩ | ⟨-, rfl⟩ <;> rfl
  have hR' : xR G (n + 1) K' (xrow I n (fun _ => 0)) (xprow P n (fun _ => none)) H1 := hR.push (by omega) (fun q hq => o1 q (by omega)) hat (fun q hq => ⟨hK' q hq, xrow_ne hq, xprow_ne hq⟩) hn
  have k2 := kk H1 locs ls hR' hlo hlv
  have e3 : xv G (.ref n) = .ref (G.2.2.1 + n) := congrArg Value.ref (xmu_new (by omega))
  rw [List.map_cons, e3] at k2
  exact k2
/-- anewarray: STROKES or TEXTS -/
theorem ax_newq {c : Nat} {E : String} {x : Int32} {w idx : Nat} (hX : xAmb G X Y d mc ms) (hY : xpOK Y = true) {a : Nat} {cs : List (Int32 × Nat)} (hs : xlook Y.2.2.2.2.1 pc = some (.anewarray idx, nx, a, cs)) (hE : (c = 15 ∧ E = "HandOverHorse$Stroke") ∨ (c = 16 ∧ E = "HandOverHorse$Text")) (hw : Cond.classLink Y.1.cls idx E ∈ xw)
    (hx0 : ¬ x < 0) (hxw : x.toNatClampNeg = w) (hwl : w ≤ 10000) (hk : K' n = (c, w)) (hK' : ∀ q, q ≠ n → K' q = K q) (hn : n + 1 < 1000000) (hm : cells + 1 ≤ mc ∧ slots + w ≤ ms)
    (kk : aW G X Y (n + 1) K' (xrow I n (fun _ => 0)) (xprow P n (fun _ => none)) (cells + 1) (slots + w) nx lv (.ref n :: st)) : aW G X Y n K I P cells slots pc lv (.int x :: st) := by
  obtain ⟨hd, -, hlen, -⟩ := xdec hY hs
  obtain rfl : nx = pc + 3 := by simpa [xlen] using hlen
  rw [Nat.add_sub_cancel_left] at hd
  intro H locs ls hR hlo hlv
  have hts := hX.2.2.2.2.1
  have hK := hX.2.2.2.2.2.1.1
  have hsz := hR.1
  subst hxw
  have hAO : va_AO E X.2.2.2.2.1 := by
    rcases hE with ⟨-, rfl⟩ | ⟨-, rfl⟩
    · exact hX.2.2.2.2.2.1.2.2.1
    · exact hX.2.2.2.2.2.1.2.2.2.1
  refine W.anew hX.1 hX.2.1 hX.2.2.2.1 (hts _ hw) hAO.use rfl hd rfl hx0 (by omega) (Nat.le_trans hm.1 hX.2.2.2.2.2.2.2.2.1) (Nat.le_trans hm.2 hX.2.2.2.2.2.2.2.2.2.1) fun cA kA comp f1 f2 f3 f4 => ?_
  generalize hH1 : H.push ({ cls := cA, slots := Array.replicate x.toNatClampNeg .null, vm := .none } : Cell) = H1
  have z1 : H1.size = H.size + 1 := by rw [← hH1, Array.size_push]
  have e1 : H1[H.size]? = some (arrV cA x.toNatClampNeg (fun _ => .null)) := by rw [← hH1, Array.getElem?_push_size, ← arrV_new]
  have o1 : ∀ q : Nat, q < H.size → H1[q]? = H[q]? := fun q hq => by rw [← hH1, Array.getElem?_push, if_neg (Nat.ne_of_lt hq)]
  have hcA : cA = G.2.1 c := by
    rcases hE with ⟨rfl, rfl⟩ | ⟨rfl, rfl⟩
    · obtain ⟨_, _, -, -, -, h4⟩ := (hK.2 2 _ rfl).2
      exact Option.some.inj (f1.symm.trans h4)
    · obtain ⟨_, _, -, -, -, h4⟩ := (hK.2 3 _ rfl).2
      exact Option.some.inj (f1.symm.trans h4)
  have hat : va_at G.1 xCl (G.2.2.1 + n, xE G K' (xrow I n (fun _ => 0)) (xprow P n (fun _ => none)) n) H1 := by
    rw [xE_ref hk (by omega), xprow_self]
    show H1[G.2.2.1 + n]? = some (arrV (G.2.1 c) _ (fun _ => .null))
    rw [← hsz, e1, hcA]
  have hR' : xR G (n + 1) K' (xrow I n (fun _ => 0)) (xprow P n (fun _ => none)) H1 := hR.push z1 o1 hat (fun q hq => ⟨hK' q hq, xrow_ne hq, xprow_ne hq⟩) hn
  have k2 := kk H1 locs ls hR' hlo hlv
  have e3 : xv G (.ref n) = .ref H.size := by rw [hsz]; exact congrArg Value.ref (xmu_new (by omega))
  rw [List.map_cons, e3] at k2
  exact k2
end AN
/-! contracts -/
abbrev xPost : Type := Option Value → Nat → (Nat → Nat × Nat) → (Nat → Nat → Int32) → (Nat → Nat → Option Nat) → Prop
def rmD (d mc ms : Nat) : Room := { frames := d, cells := mc, slots := ms, locals := 64 * d }
def cPre (G : xG) (as : List Value) (n : Nat) (K : Nat → Nat × Nat) (I : Nat → Nat → Int32) (P : Nat → Nat → Option Nat) : Array Value → State → Prop := fun a U => a = (as.map (xv G)).toArray ∧ xR G n K I P U.heap ∧ xK G U
def cPost (G : xG) (Post : xPost) : Array Value → State → Outcome → State → Prop := fun _ _ o t => ∃ v n' K' I' P', o = .returned (v.map (xv G)) ∧ Post v n' K' I' P' ∧ xR G n' K' I' P' t.heap
def cWs (Y : MI) : List Cond := Cond.code Y.1 Y.2.1 Y.2.2.1 Y.2.2.2.1 :: xw
/-- method Y, called with these arguments over these cells, returns, and Post holds of its answer and the cells; it needs d frames, makes at most mc cells of ms slots -/
def cM (G : xG) (d : Nat) (Y : MI) (as : List Value) (n : Nat) (K : Nat → Nat × Nat) (I : Nat → Nat → Int32) (P : Nat → Nat → Option Nat) (mc ms : Nat) (Post : xPost) : Prop :=
  ∀ l : Launch, Met l Y.1 (cWs Y) (rmD d mc ms) (cPre G as n K I P) (cPost G Post) mc ms (xA G)
/-- the end of a method's body -/
def xRet (G : xG) (X : xC) (Y : MI) (mc ms : Nat) (Post : xPost) : Prop :=
  X.2.2.2.2.2.2.2.2.2.2 = MQ X.2.2.2.2.2.2.2.1 (cPost G Post) X.2.2.2.2.2.2.1 X.2.2.2.2.1 mc ms (xA G) ∧ X.2.2.2.2.2.2.2.2.1.sig.returnType = Y.2.2.2.1 ∧ X.2.2.2.2.2.2.2.2.1.locks = false
def xargs : List Value → Nat → List Value
  | [], k => List.replicate k .null
  | .long x :: vs, k => .long x :: .null :: xargs vs (k - 2)
  | .double x :: vs, k => .double x :: .null :: xargs vs (k - 2)
  | v :: vs, k => v :: xargs vs (k - 1)
theorem xget_rep (k i : Nat) : xget (List.replicate k .null) i = .null := by
  induction k generalizing i with
  | zero => rfl
  | succ k ih => cases i with
    | zero => rfl
    | succ i => exact ih i
theorem xargs_mem (G : xG) : ∀ (as : List Value) (k o i : Nat), xget (xargs as k) i ≠ .null → (o + i, xv G (xget (xargs as k) i)) ∈ lv_args o (as.map (xv G)) := by
  intro as
  induction as with
  | nil => intro k o i h; exact absurd (xget_rep k i) h
  | cons v vs ih =>
    intro k o i h
    cases v
    case long x =>
      match i, h with
      | 0, h => exact List.mem_cons_self
      | 1, h => exact absurd rfl h
      | i + 2, h =>
        have := ih (k - 2) (o + 2) i h
        rw [show o + (i + 2) = o + 2 + i by omega]
        exact List.mem_cons_of_mem _ this
    case double x =>
      match i, h with
      | 0, h => exact List.mem_cons_self
      | 1, h => exact absurd rfl h
      | i + 2, h =>
        have := ih (k - 2) (o + 2) i h
        rw [show o + (i + 2) = o + 2 + i by omega]
        exact List.mem_cons_of_mem _ this
    all_goals
      match i, h with
      | 0, h => exact List.mem_cons_self
      | i + 1, h =>
        have := ih (k - 1) (o + 1) i h
        rw [show o + (i + 1) = o + 1 + i by omega]
        exact List.mem_cons_of_mem _ this
def xwid : List Value → Nat
  | [] => 0
  | .long _ :: vs => xwid vs + 2
  | .double _ :: vs => xwid vs + 2
  | _ :: vs => xwid vs + 1
theorem xwid_sl (G : xG) (as : List Value) : (lg_sl (as.map (xv G))).length = xwid as := by
  induction as with
  | nil => rfl
  | cons v vs ih =>
    have h : lg_sl ((v :: vs).map (xv G)) = (if (xv G v).category = 2 then [.val (xv G v), .second] else [.val (xv G v)]) ++ lg_sl (vs.map (xv G)) := rfl
    rw [h, List.length_append, ih]
    cases v <;> simp [xv, xwid, Value.category] <;> omega
theorem cM.of {G : xG} {d : Nat} {Y : MI} {as : List Value} {n : Nat} {K : Nat → Nat × Nat} {I : Nat → Nat → Int32} {P : Nat → Nat → Option Nat} {mc ms : Nat} {Post : xPost} (hy : plainName Y.1.cls = true) (hw : xwid as ≤ Y.2.2.1)
    (body : ∀ X : xC, xAmb G X Y d mc ms → xRet G X Y mc ms Post → aW G X Y n K I P 0 0 0 (xargs as Y.2.2.1) []) : cM G d Y as n K I P mc ms Post := by
  intro l
  refine Met.ofW (cc := Y.2.1) (maxL := Y.2.2.1) (ret := Y.2.2.2.1) hy rfl ?_
  intro p e s m args below meth c s₁ B hml hv
  obtain ⟨rfl, hR, hK⟩ := hv
  have hts : ∀ w ∈ cWs Y, w.before _ s = true := atoms_spec (ws := cWs Y) B.pre
  have hown : s.vm.findClass Y.1.cls = some m.cls := findClass_of_methodNamed B.named
  have hnm := (name_of_methodNamed B.named B.method).1
  have h := body (p, l, e, (headSpec (cWs Y) (rmD d mc ms)).room, s, m, (as.map (xv G)).toArray, below, meth, c, MQ below (cPost G Post) (as.map (xv G)).toArray s mc ms (xA G))
    ⟨B.exec, B.bytes, hml, hown, fun w hw => hts w (List.mem_cons_of_mem _ hw), hK, Nat.le_refl _, Nat.le_refl _, Nat.le_refl _, Nat.le_refl _, hnm⟩ ⟨rfl, B.returns, B.notSynchronized⟩
  have hl := lv_entry (as.map (xv G)) (n := Y.2.2.1) (by rw [xwid_sl]; exact hw)
  rw [lg_entry_eq]
  refine h s.heap [] _ hR (fun q hq => by cases hq) ⟨hl.1, hl.2.1, fun i hi => ?_⟩
  have := hl.2.2 _ (xargs_mem G as Y.2.2.1 0 i hi)
  rw [Nat.zero_add] at this
  exact this
section AR
variable {G : xG} {X : xC} {Y : MI} {d mc ms n : Nat} {K : Nat → Nat × Nat} {I : Nat → Nat → Int32} {P : Nat → Nat → Option Nat} {cells slots pc nx r : Nat} {lv st : List Value} {Post : xPost}
theorem ax_iret {v : Int32} (hX : xAmb G X Y d mc ms) (hE : xRet G X Y mc ms Post) (hY : xpOK Y = true) (hs : xis Y pc xq_iret = some nx) (ht : Y.2.2.2.1 = some .int ∨ (Y.2.2.2.1 = some .boolean ∧ (v = 0 ∨ v = 1))) (hc : cells ≤ mc ∧ slots ≤ ms) (hp : Post (some (.int v)) n K I P) : aW G X Y n K I P cells slots pc lv [.int v] := by
  obtain ⟨hd, rfl⟩ := xis_dec (ins := .ireturn) hY hs (fun i h => by cases i <;> first | rfl | cases h) (by decide)
  intro H locs ls hR hlo hlv
  rw [hE.1]
  refine W.widen hc.1 hc.2 ?_
  rcases ht with h | ⟨h, hv⟩
  · exact W.iret hX.1 hX.2.1 (hE.2.1.trans h) (fun t hT _ => ⟨_, _, _, _, _, rfl, hp, by rw [hT]; exact hR⟩) hlo hd hE.2.2
  · exact W.zret (ty := .boolean) hX.1 hX.2.1 (hE.2.1.trans h) (by rcases hv with rfl | rfl <;> rfl) (fun t hT _ => ⟨_, _, _, _, _, rfl, hp, by rw [hT]; exact hR⟩) hlo hd hE.2.2
theorem ax_vret (hX : xAmb G X Y d mc ms) (hE : xRet G X Y mc ms Post) (hY : xpOK Y = true) (hs : xis Y pc xq_ret = some nx) (ht : Y.2.2.2.1 = none) (hc : cells ≤ mc ∧ slots ≤ ms) (hp : Post none n K I P) : aW G X Y n K I P cells slots pc lv [] := by
  obtain ⟨hd, rfl⟩ := xis_dec (ins := .return_) hY hs (fun i h => by cases i <;> first | rfl | cases h) (by decide)
  intro H locs ls hR hlo hlv
  rw [hE.1]
  refine W.widen hc.1 hc.2 ?_
  exact W.vret hX.1 hX.2.1 (hE.2.1.trans ht) (fun t hT _ => ⟨none, _, _, _, _, rfl, hp, by rw [hT]; exact hR⟩) hlo hd hE.2.2
theorem ax_aret {q : Nat} {C : String} (hX : xAmb G X Y d mc ms) (hE : xRet G X Y mc ms Post) (hY : xpOK Y = true) (hs : xis Y pc xq_aret = some nx) (ht : Y.2.2.2.1 = some (.object C)) (hc : cells ≤ mc ∧ slots ≤ ms) (hp : Post (some (.ref q)) n K I P) : aW G X Y n K I P cells slots pc lv [.ref q] := by
  obtain ⟨hd, rfl⟩ := xis_dec (ins := .areturn) hY hs (fun i h => by cases i <;> first | rfl | cases h) (by decide)
  intro H locs ls hR hlo hlv
  rw [hE.1]
  refine W.widen hc.1 hc.2 ?_
  exact W.aret hX.1 hX.2.1 (hE.2.1.trans ht) (Or.inl ⟨C, rfl⟩) (Or.inr ⟨_, rfl⟩) (fun t hT _ => ⟨some (.ref q), _, _, _, _, rfl, hp, by rw [hT]; exact hR⟩) hlo hd hE.2.2
end AR
end
section
/-! calls -/
theorem xlw_good {w : Cond} (h : w ∈ xw) : goodWord w = true := (List.mem_filter.mp h).2
theorem xgood {Y' : MI} (h : Cond.code Y'.1 Y'.2.1 Y'.2.2.1 Y'.2.2.2.1 ∈ xw) : GoodIn xw (cWs Y') := by
  intro w hw
  have hm : w ∈ xw := by
    rcases List.mem_cons.mp hw with rfl | hw
    · exact h
    · exact hw
  exact ⟨hm, good_of_word (xlw_good hm)⟩
/-- what every call asks of the tables -/
def xLk (own : String) (idx : Nat) (Y' : MI) (np : Nat) : Prop := Cond.methodLink own idx Y'.1 ∈ xw ∧ Cond.initialized Y'.1.cls ∈ xw ∧ Cond.code Y'.1 Y'.2.1 Y'.2.2.1 Y'.2.2.2.1 ∈ xw ∧
  (Y'.1.cls ≠ "java/lang/invoke/MethodHandle" ∧ Y'.1.cls ≠ "java/lang/invoke/VarHandle") ∧ (parseMethodDescriptor Y'.1.desc).map (fun d => d.parameters.length) = some np ∧ Y'.2.2.1 ≤ 45
def xLs (own : String) (idx : Nat) (Y' : MI) (np : Nat) : Prop := xLk own idx Y' np ∧ Cond.static Y'.1 ∈ xw
def xLv (own : String) (idx : Nat) (Y' : MI) (np : Nat) : Prop := xLk own idx Y' np ∧ Cond.instanceMethod Y'.1 ∈ xw ∧ Cond.selects Y'.1.cls Y'.1 Y'.1 ∈ xw
def xLi (own : String) (idx : Nat) (Y' : MI) (np : Nat) : Prop := xLk own idx Y' np ∧ Cond.instanceMethod Y'.1 ∈ xw ∧ Y'.1.name = "<init>"
/-- a method of an object of class C, which the pool names by x; owner has x's code, C selects Y' -/
def xLu (own : String) (idx : Nat) (C : String) (x : MethodName) (Y0 Y' : MI) (np : Nat) : Prop := Cond.methodLink own idx x ∈ xw ∧ Cond.sameMethod x.cls Y0.1.cls x.name x.desc ∈ xw ∧ (Y0.1 = ⟨Y0.1.cls, x.name, x.desc⟩ ∧ Cond.instanceMethod Y0.1 ∈ xw ∧ Cond.code Y0.1 Y0.2.1 Y0.2.2.1 Y0.2.2.2.1 ∈ xw) ∧
  Cond.selects C x Y'.1 ∈ xw ∧ Cond.instanceMethod Y'.1 ∈ xw ∧ Cond.initialized Y'.1.cls ∈ xw ∧ Cond.code Y'.1 Y'.2.1 Y'.2.2.1 Y'.2.2.2.1 ∈ xw ∧
  (Y0.1.cls ≠ "java/lang/invoke/MethodHandle" ∧ Y0.1.cls ≠ "java/lang/invoke/VarHandle") ∧ (parseMethodDescriptor x.desc).map (fun d => d.parameters.length) = some np ∧ Y'.2.2.1 ≤ 45
/-- super.y() -/
def xLsu (own : String) (idx : Nat) (Y' : MI) (np : Nat) : Prop := Cond.methodLink own idx Y'.1 ∈ xw ∧ Cond.sameMethod Y'.1.cls Y'.1.cls Y'.1.name Y'.1.desc ∈ xw ∧ Cond.superclass own Y'.1.cls ∈ xw ∧ Cond.instanceMethod Y'.1 ∈ xw ∧ Cond.initialized Y'.1.cls ∈ xw ∧ Cond.code Y'.1 Y'.2.1 Y'.2.2.1 Y'.2.2.2.1 ∈ xw ∧ Y'.1.name ≠ "<init>" ∧ (parseMethodDescriptor Y'.1.desc).map (fun d => d.parameters.length) = some np ∧ Y'.2.2.1 ≤ 45
theorem cPre_blind {G : xG} {as : List Value} {n : Nat} {K : Nat → Nat × Nat} {I : Nat → Nat → Int32} {P : Nat → Nat → Option Nat} : FrameBlind (cPre G as n K I P) := fun a U g mk h => ⟨h.1, h.2.1, xK.same (u := U) rfl h.2.2⟩
section AS
variable {G : xG} {X : xC} {Y Y' : MI} {d d' mc ms mc' ms' n np idx a : Nat} {cs : List (Int32 × Nat)} {K : Nat → Nat × Nat} {I : Nat → Nat → Int32} {P : Nat → Nat → Option Nat} {cells slots pc nx r : Nat} {lv st as rest : List Value} {Post' : xPost}
theorem xrun {p : Program} {l : Launch} {e : Env} {R : Room} {s : State} {m : MethodId} {args : Array Value} {below : List Frame} {meth : Method} {c : Code} {Q : State → Prop} {H : Heap} {locs : List Loc} {ls : Array Slot} {st0 rest0 : List Value} {av : Array Value}
    (hr : va_Run p l e R s m args below meth c H locs cells slots mc' ms' (F0 m pc ls st0) rest0 (cPost G Post' av) (xA G)) (hlo : ∀ q ∈ locs, xA G q.base)
    (kk : ∀ v n' K' I' P' H1 locs1, Post' v n' K' I' P' → xR G n' K' I' P' H1 → (∀ q ∈ locs1, xA G q.base) → W p l e R s m args below meth c H1 locs1 (cells + mc') (slots + ms') Q (F0 m (pc + 3) ls ((v.map (xv G)).toList ++ rest0))) : W p l e R s m args below meth c H locs cells slots Q (F0 m pc ls st0) := by
  intro T hT X
  obtain ⟨v, st₀, t, T', L, h0, X', hL, e1, e2, ⟨v', n', K', I', P', hv, hp, hR'⟩, stp⟩ := hr T hT X
  cases hv
  obtain ⟨t2, a1, b1⟩ := kk v' n' K' I' P' T'.heap (locs ++ L) hp (by rw [e1]; exact hR') (fun q hq => by
    rcases List.mem_append.mp hq with h | h
    · exact hlo q h
    · exact hL q h) T' rfl X'
  exact ⟨t2, stp t2 a1, b1⟩
theorem xmono (hX : xAmb G X Y d mc ms) (hd : d' < d) (hl : Y'.2.2.1 ≤ 45) : (rmD d' mc' ms').frames + 1 ≤ X.2.2.2.1.frames ∧ 8 + (Y'.2.2.1 + 11) + (rmD d' mc' ms').locals ≤ X.2.2.2.1.locals := by
  have h1 := hX.2.2.2.2.2.2.1
  have h2 := hX.2.2.2.2.2.2.2.1
  show d' + 1 ≤ _ ∧ 8 + (Y'.2.2.1 + 11) + 64 * d' ≤ _
  omega
theorem xroom (hX : xAmb G X Y d mc ms) (hm : cells + mc' ≤ mc ∧ slots + ms' ≤ ms) : cells + mc' ≤ X.2.2.2.1.cells ∧ slots + ms' ≤ X.2.2.2.1.slots := ⟨Nat.le_trans hm.1 hX.2.2.2.2.2.2.2.2.1, Nat.le_trans hm.2 hX.2.2.2.2.2.2.2.2.2.1⟩
theorem xcats (G : xG) (l : List Value) : ((l.map (xv G)).map fun v => v.category) = l.map fun v => v.category := by
  rw [List.map_map]
  exact List.map_congr_left fun v _ => xv_cat G v
/-- a static method -/
theorem ax_S (hX : xAmb G X Y d mc ms) (hY : xpOK Y = true) (hs : xlook Y.2.2.2.2.1 pc = some (.invokestatic idx, nx, a, cs)) (hl : xLs Y.1.cls idx Y' np) (hc : cM G d' Y' as n K I P mc' ms' Post') (hd' : d' < d) (hn : as.length = np) (hst : st = as.reverse ++ rest) (hr8 : (rest.map fun v => v.category).sum ≤ 8) (hm : cells + mc' ≤ mc ∧ slots + ms' ≤ ms)
    (kk : ∀ v n' K' I' P', Post' v n' K' I' P' → aW G X Y n' K' I' P' (cells + mc') (slots + ms') nx lv (v.toList ++ rest)) : aW G X Y n K I P cells slots pc lv st := by
  obtain ⟨hd, -, hlen, -⟩ := xdec hY hs
  obtain rfl : nx = pc + 3 := by simpa [xlen] using hlen
  rw [Nat.add_sub_cancel_left] at hd
  intro H locs ls hR hlo hlv
  have hts := hX.2.2.2.2.1
  obtain ⟨⟨h1, h2, h3, h4, h5, h6⟩, h7⟩ := hl
  have cb := callB_of (R := X.2.2.2.1) (own := Y.1.cls) (index := idx) (y := Y'.1) (bytes := Y'.2.1) (maxL := Y'.2.2.1) (ret := Y'.2.2.2.1) (ws := cWs Y') (rm := rmD d' mc' ms') (mc := mc') (ms := ms') np hts (xgood h3) rfl rfl rfl (hts _ h2) (hts _ h1) ⟨h4.1, h4.2, h5⟩ (xmono hX hd' h6)
  refine xrun (va_runS (As := as.map (xv G)) (rest := rest.map (xv G)) ⟨hX.1, hX.2.1, hX.2.2.1, hX.2.2.2.1, hts⟩ (hc _) ⟨cb, hts _ h7⟩ ⟨cPre_blind, fun U hU hW => ⟨rfl, by rw [hU]; exact hR, hX.2.2.2.2.2.1.warm hW⟩⟩ rfl (by rw [List.length_map]; exact hn) hlv.1 (by show st.map (xv G) = _; rw [hst, List.map_append, List.map_reverse]) (lv_room (by rw [xcats]; exact hr8)) hd (xroom hX hm)) hlo ?_
  intro v n' K' I' P' H1 locs1 hp hR1 hlo1
  have k2 := kk v n' K' I' P' hp H1 locs1 ls hR1 hlo1 hlv
  rw [List.map_append] at k2
  cases v <;> exact k2
/-- a method of an object whose class is Y''s -/
theorem ax_V {c w : Nat} (hX : xAmb G X Y d mc ms) (hY : xpOK Y = true) (hs : xlook Y.2.2.2.2.1 pc = some (.invokevirtual idx, nx, a, cs)) (hl : xLv Y.1.cls idx Y' np) (hr : r < n) (hk : K r = (c, w)) (hc13 : c < 13) (hcl : Y'.1.cls = xcn c) (hc : cM G d' Y' (.ref r :: as) n K I P mc' ms' Post') (hd' : d' < d) (hn : as.length = np) (hst : st = as.reverse ++ .ref r :: rest) (hr8 : (rest.map fun v => v.category).sum ≤ 8) (hm : cells + mc' ≤ mc ∧ slots + ms' ≤ ms)
    (kk : ∀ v n' K' I' P', Post' v n' K' I' P' → aW G X Y n' K' I' P' (cells + mc') (slots + ms') nx lv (v.toList ++ rest)) : aW G X Y n K I P cells slots pc lv st := by
  obtain ⟨hd, -, hlen, -⟩ := xdec hY hs
  obtain rfl : nx = pc + 3 := by simpa [xlen] using hlen
  rw [Nat.add_sub_cancel_left] at hd
  intro H locs ls hR hlo hlv
  have hts := hX.2.2.2.2.1
  obtain ⟨⟨h1, h2, h3, h4, h5, h6⟩, h7, h8⟩ := hl
  have cb := callB_of (R := X.2.2.2.1) (own := Y.1.cls) (index := idx) (y := Y'.1) (bytes := Y'.2.1) (maxL := Y'.2.2.1) (ret := Y'.2.2.2.1) (ws := cWs Y') (rm := rmD d' mc' ms') (mc := mc') (ms := ms') np hts (xgood h3) rfl rfl rfl (hts _ h2) (hts _ h1) ⟨h4.1, h4.2, h5⟩ (xmono hX hd' h6)
  have ha := hR.at hr
  rw [xE_obj hk hc13] at ha
  have hrec := va_recv hX.2.2.2.2.2.1.1 (va_P_one ha) (xCl_get hc13) (q0 := 0) rfl
  have e1 : xmu G r = G.2.2.1 + r := xmu_new (hR.lt hr)
  rw [hcl] at h8
  refine xrun (va_runV (C := xcn c) (b := G.2.2.1 + r) (As := as.map (xv G)) (rest := rest.map (xv G)) ⟨hX.1, hX.2.1, hX.2.2.1, hX.2.2.2.1, hts⟩ (hc _) ⟨cb, hts _ h7, hts _ h8⟩ ⟨cPre_blind, hrec, fun U hU hW => ⟨by rw [← e1]; rfl, by rw [hU]; exact hR, hX.2.2.2.2.2.1.warm hW⟩⟩ rfl (by rw [List.length_map]; exact hn) hlv.1 (by show st.map (xv G) = _; rw [hst, List.map_append, List.map_reverse, ← e1]; rfl) (lv_room (by rw [xcats]; exact hr8)) hd (xroom hX hm)) hlo ?_
  intro v n' K' I' P' H1 locs1 hp hR1 hlo1
  have k2 := kk v n' K' I' P' hp H1 locs1 ls hR1 hlo1 hlv
  rw [List.map_append] at k2
  cases v <;> exact k2
/-- a method that the object's class selects -/
theorem ax_U {Y0 : MI} {x : MethodName} {c w : Nat} (hX : xAmb G X Y d mc ms) (hY : xpOK Y = true) (hs : xlook Y.2.2.2.2.1 pc = some (.invokevirtual idx, nx, a, cs)) (hl : xLu Y.1.cls idx (xcn c) x Y0 Y' np) (hr : r < n) (hk : K r = (c, w)) (hc13 : c < 13) (hc : cM G d' Y' (.ref r :: as) n K I P mc' ms' Post') (hd' : d' < d) (hn : as.length = np) (hst : st = as.reverse ++ .ref r :: rest) (hr8 : (rest.map fun v => v.category).sum ≤ 8) (hm : cells + mc' ≤ mc ∧ slots + ms' ≤ ms)
    (kk : ∀ v n' K' I' P', Post' v n' K' I' P' → aW G X Y n' K' I' P' (cells + mc') (slots + ms') nx lv (v.toList ++ rest)) : aW G X Y n K I P cells slots pc lv st := by
  obtain ⟨hd, -, hlen, -⟩ := xdec hY hs
  obtain rfl : nx = pc + 3 := by simpa [xlen] using hlen
  rw [Nat.add_sub_cancel_left] at hd
  intro H locs ls hR hlo hlv
  have hts := hX.2.2.2.2.1
  obtain ⟨h1, h2, ⟨g0, g1, g2⟩, h3, h4, h5, h6, h7, h8, h9⟩ := hl
  have ha := hR.at hr
  rw [xE_obj hk hc13] at ha
  have hrec := va_recv hX.2.2.2.2.2.1.1 (va_P_one ha) (xCl_get hc13) (q0 := 0) rfl
  have e1 : xmu G r = G.2.2.1 + r := xmu_new (hR.lt hr)
  have hxm := xmono (mc' := mc') (ms' := ms') hX hd' h9
  have hdecl : va_Decl X.2.2.2.2.1 ⟨Y0.1.cls, x.name, x.desc⟩ := by
    rw [← g0]
    exact va_Decl.of (hts _ g1) (hts _ g2)
  have cu : va_CU X.2.2.2.1 X.2.2.2.2.1 X.2.2.2.2.2.2.1 Y.1.cls (xcn c) Y0.1.cls idx x Y'.1 Y'.2.1 Y'.2.2.1 Y'.2.2.2.1 (cWs Y') (rmD d' mc' ms') mc' ms' np :=
    ⟨⟨rfl, rfl, hxm.1, hxm.2, pay_in hts (xgood h6), List.mem_cons_self⟩, hts _ h6, hts _ h5, h7, fun sig h => by
      rw [h] at h8
      exact (Option.some.inj h8).symm, hts _ h1, hts _ h2, hdecl, hts _ h3, hts _ h4⟩
  refine xrun (va_runU (C := xcn c) (b := G.2.2.1 + r) (As := as.map (xv G)) (rest := rest.map (xv G)) ⟨hX.1, hX.2.1, hX.2.2.1, hX.2.2.2.1, hts⟩ (hc _) cu ⟨cPre_blind, hrec, fun U hU hW => ⟨by rw [← e1]; rfl, by rw [hU]; exact hR, hX.2.2.2.2.2.1.warm hW⟩⟩ rfl (by rw [List.length_map]; exact hn) hlv.1 (by show st.map (xv G) = _; rw [hst, List.map_append, List.map_reverse, ← e1]; rfl) (lv_room (by rw [xcats]; exact hr8)) hd (xroom hX hm)) hlo ?_
  intro v n' K' I' P' H1 locs1 hp hR1 hlo1
  have k2 := kk v n' K' I' P' hp H1 locs1 ls hR1 hlo1 hlv
  rw [List.map_append] at k2
  cases v <;> exact k2
/-- super.y(): the receiver's class is c -/
theorem ax_SU {c w : Nat} (hX : xAmb G X Y d mc ms) (hY : xpOK Y = true) (hs : xlook Y.2.2.2.2.1 pc = some (.invokespecial idx, nx, a, cs)) (hl : xLsu Y.1.cls idx Y' np) (hr : r < n) (hk : K r = (c, w)) (hc13 : c < 13) (hc : cM G d' Y' (.ref r :: as) n K I P mc' ms' Post') (hd' : d' < d) (hn : as.length = np) (hst : st = as.reverse ++ .ref r :: rest) (hr8 : (rest.map fun v => v.category).sum ≤ 8) (hm : cells + mc' ≤ mc ∧ slots + ms' ≤ ms)
    (kk : ∀ v n' K' I' P', Post' v n' K' I' P' → aW G X Y n' K' I' P' (cells + mc') (slots + ms') nx lv (v.toList ++ rest)) : aW G X Y n K I P cells slots pc lv st := by
  obtain ⟨hd, -, hlen, -⟩ := xdec hY hs
  obtain rfl : nx = pc + 3 := by simpa [xlen] using hlen
  rw [Nat.add_sub_cancel_left] at hd
  intro H locs ls hR hlo hlv
  have hts := hX.2.2.2.2.1
  obtain ⟨h1, h2, h3, h4, h5, h6, h7, h8, h9⟩ := hl
  have ha := hR.at hr
  rw [xE_obj hk hc13] at ha
  have hK := hX.2.2.2.2.2.1.1
  have hrec := va_recv hK (va_P_one ha) (xCl_get hc13) (q0 := 0) rfl
  have e1 : xmu G r = G.2.2.1 + r := xmu_new (hR.lt hr)
  have hxm := xmono (mc' := mc') (ms' := ms') hX hd' h9
  have cu : va_CS X.2.2.2.1 X.2.2.2.2.1 X.2.2.2.2.2.2.1 Y.1.cls idx Y'.1 Y'.2.1 Y'.2.2.1 Y'.2.2.2.1 (cWs Y') (rmD d' mc' ms') mc' ms' np :=
    ⟨⟨rfl, rfl, hxm.1, hxm.2, pay_in hts (xgood h6), List.mem_cons_self⟩, hts _ h1, hts _ h2, hts _ h3, hts _ h4, hts _ h5, hts _ h6, h7, fun sig h => by
      rw [h] at h8
      exact (Option.some.inj h8).symm⟩
  refine xrun (va_runSU (C := xcn c) (b := G.2.2.1 + r) (As := as.map (xv G)) (rest := rest.map (xv G)) (hK.1 c _ (xCl_get hc13)).2 ⟨hX.1, hX.2.1, hX.2.2.1, hX.2.2.2.1, hts⟩ (hc _) cu ⟨cPre_blind, hrec, fun U hU hW => ⟨by rw [← e1]; rfl, by rw [hU]; exact hR, hX.2.2.2.2.2.1.warm hW⟩⟩ rfl (by rw [List.length_map]; exact hn) hlv.1 (by show st.map (xv G) = _; rw [hst, List.map_append, List.map_reverse, ← e1]; rfl) (lv_room (by rw [xcats]; exact hr8)) hd (xroom hX hm)) hlo ?_
  intro v n' K' I' P' H1 locs1 hp hR1 hlo1
  have k2 := kk v n' K' I' P' hp H1 locs1 ls hR1 hlo1 hlv
  rw [List.map_append] at k2
  cases v <;> exact k2
/-- a constructor -/
theorem ax_I (hX : xAmb G X Y d mc ms) (hY : xpOK Y = true) (hs : xlook Y.2.2.2.2.1 pc = some (.invokespecial idx, nx, a, cs)) (hl : xLi Y.1.cls idx Y' np) (hret : Y'.2.2.2.1 = none) (hr : r < 1000000) (hc : cM G d' Y' (.ref r :: as) n K I P mc' ms' Post') (hd' : d' < d) (hn : as.length = np) (hst : st = as.reverse ++ .ref r :: rest) (hr8 : (rest.map fun v => v.category).sum ≤ 8) (hm : cells + mc' ≤ mc ∧ slots + ms' ≤ ms)
    (kk : ∀ v n' K' I' P', Post' v n' K' I' P' → aW G X Y n' K' I' P' (cells + mc') (slots + ms') nx lv (v.toList ++ rest)) : aW G X Y n K I P cells slots pc lv st := by
  obtain ⟨hd, -, hlen, -⟩ := xdec hY hs
  obtain rfl : nx = pc + 3 := by simpa [xlen] using hlen
  rw [Nat.add_sub_cancel_left] at hd
  intro H locs ls hR hlo hlv
  have hts := hX.2.2.2.2.1
  obtain ⟨⟨h1, h2, h3, h4, h5, h6⟩, h7, h8⟩ := hl
  have cb := callB_of (R := X.2.2.2.1) (own := Y.1.cls) (index := idx) (y := Y'.1) (bytes := Y'.2.1) (maxL := Y'.2.2.1) (ret := Y'.2.2.2.1) (ws := cWs Y') (rm := rmD d' mc' ms') (mc := mc') (ms := ms') np hts (xgood h3) rfl rfl rfl (hts _ h2) (hts _ h1) ⟨h4.1, h4.2, h5⟩ (xmono hX hd' h6)
  have e1 : xmu G r = G.2.2.1 + r := xmu_new hr
  rw [hret] at cb
  refine xrun (va_runI (b := G.2.2.1 + r) (As := as.map (xv G)) (rest := rest.map (xv G)) ⟨hX.1, hX.2.1, hX.2.2.1, hX.2.2.2.1, hts⟩ (hc _) ⟨cb, h8, hts _ h7⟩ ⟨cPre_blind, fun U hU hW => ⟨by rw [← e1]; rfl, by rw [hU]; exact hR, hX.2.2.2.2.2.1.warm hW⟩⟩ rfl (by rw [List.length_map]; exact hn) hlv.1 (by show st.map (xv G) = _; rw [hst, List.map_append, List.map_reverse, ← e1]; rfl) (lv_room (by rw [xcats]; exact hr8)) hd (xroom hX hm)) hlo ?_
  intro v n' K' I' P' H1 locs1 hp hR1 hlo1
  have k2 := kk v n' K' I' P' hp H1 locs1 ls hR1 hlo1 hlv
  rw [List.map_append] at k2
  cases v <;> exact k2
/-- Object's constructor -/
theorem ax_obj (hX : xAmb G X Y d mc ms) (hY : xpOK Y = true) (hs : xlook Y.2.2.2.2.1 pc = some (.invokespecial idx, nx, a, cs)) (hl : Cond.methodLink Y.1.cls idx Lib.objectInit ∈ xw ∧ Cond.instanceMethod Lib.objectInit ∈ xw ∧ Cond.code Lib.objectInit ⟨#[0xb1]⟩ 1 none ∈ xw) (hd1 : 0 < d) (hr8 : (st.map fun v => v.category).sum ≤ 8)
    (kk : aW G X Y n K I P cells slots nx lv st) : aW G X Y n K I P cells slots pc lv (.ref r :: st) := by
  obtain ⟨hd, -, hlen, -⟩ := xdec hY hs
  obtain rfl : nx = pc + 3 := by simpa [xlen] using hlen
  rw [Nat.add_sub_cancel_left] at hd
  intro H locs ls hR hlo hlv
  have hts := hX.2.2.2.2.1
  have h1 := hX.2.2.2.2.2.2.1
  have h2 := hX.2.2.2.2.2.2.2.1
  refine W.objInit hX.1 hX.2.1 hX.2.2.2.1 (hts _ hl.1) (hts _ hl.2.1) (hts _ hl.2.2) rfl (hlv.1.trans hX.2.2.1.symm) rfl hd (by omega) ?_ (kk H locs ls hR hlo hlv)
  show 2 * 0 + ((st.map (xv G)).map fun v => v.category).sum + 12 ≤ _
  rw [xcats]
  omega
end AS
end
section
/-! inherited methods: super.y() where a class above the named one declares it; a static method that a class above the named one declares -/
section CX
variable {p : Program} {l : Launch} {e : Env} {R : Room} {s : State} {m : MethodId} {args : Array Value} {below : List Frame} {meth : Method} {c : Code}
theorem xa_sub {vm : Vm} {a b : ClassId} {k : Class} (hk : vm.classes[a]? = some k) (hs : k.super = some b) : vm.isSubclass a b = true := by
  have hlt : a < vm.classes.size := (Array.getElem?_eq_some_iff.mp hk).1
  unfold Vm.isSubclass
  cases hz : vm.classes.size with
  | zero => rw [hz] at hlt; exact absurd hlt (Nat.not_lt_zero _)
  | succ n =>
    unfold Vm.isSubclassAux
    rw [hk]
    simp only [hs]
    unfold Vm.isSubclassAux
    simp
theorem xa_callSX {T : State} {locs : List Loc} {cells slots : Nat} (X : Stand p l e R s m args below meth c T locs cells slots) (hexec : p.tables.exec = Jvm.exec) {own : String} {index : Nat} {x y : MethodName} {bytes : ByteArray} {maxL : Nat} {ret : Option FieldType}
    (hown : s.vm.findClass own = some m.cls) (hlink : (Cond.methodLink own index x).before args s = true) (hsame : (Cond.sameMethod x.cls y.cls x.name x.desc).before args s = true) (hyx : y = ⟨y.cls, x.name, x.desc⟩) (hsup : (Cond.superclass own x.cls).before args s = true) (hsup2 : (Cond.superclass x.cls y.cls).before args s = true)
    (hinst : (Cond.instanceMethod y).before args s = true) (hcode : (Cond.code y bytes maxL ret).before args s = true) (hno : x.name ≠ "<init>")
    {W : Nat} {Pre : Pt → Array Value → Prop} {Post : Pt → Array Value → Option Value → Pt → Prop} (hK : Back l R p e below s args y 3 W Pre Post)
    {b : Addr} {cellB : Cell} {kB : Class} (hcell : T.heap[b]? = some cellB) (hobj : cellB.vm.isStatics = false) (hkB : s.vm.classes[cellB.cls]? = some kB)
    {g : JFrame} (hg : g.method = m) (hsize : g.locals.size = c.maxLocals) {argsL rest : List Value} (hlen : ∀ sig, parseMethodDescriptor y.desc = some sig → argsL.length = sig.parameters.length)
    (hstack : g.stack = argsL.reverse ++ .ref b :: rest) (hW : 2 * g.monitorRoom + (rest.map fun v => v.category).sum ≤ W) (hdg : decode c.code g.pc = .ok (.invokespecial index, 3))
    (hpre : ∀ vm₁, s.WarmedH vm₁ → Pre ⟨T.setVm vm₁, locs, cells, slots⟩ (Value.ref b :: argsL).toArray) :
    ∃ (v : Option Value) (vm₁ : Vm) (B : Pt), s.WarmedH vm₁ ∧ Stand p l e R s m args below meth c B.U B.locs B.cells B.slots ∧ Post ⟨T.setVm vm₁, locs, cells, slots⟩ (Value.ref b :: argsL).toArray v B ∧
      ∀ target, Steps p.tables e below (B.U.setTop { g with pc := g.pc + 3, stack := v.toList ++ rest }) target → Steps p.tables e below (T.setTop g) target := by
  obtain ⟨mk, methM, hnamed, hmethM, hstM, habM⟩ := Cond.instanceMethod_spec hinst
  obtain ⟨methM', cM, hmethM', -, -, -, -, -, -, hsigM⟩ := Cond.code_spec hnamed hcode
  cases hmethM.symm.trans hmethM'
  obtain ⟨ps, dk, kp, hps, hdk, hkp, hsuper, -, -, hnid⟩ := Cond.superclass_spec hown hsup
  obtain ⟨ps2, dk2, kp2, hps2, hdk2, hkp2, hsuper2, -, -, -⟩ := Cond.superclass_spec hps hsup2
  have hn : s.methodNamed? ⟨y.cls, x.name, x.desc⟩ = some mk := by rw [← hyx]; exact hnamed
  have hpm : ps2 = mk.cls := Option.some.inj (hps2.symm.trans (findClass_of_methodNamed hnamed))
  have hsub : s.vm.isSubclass ps mk.cls = true := by rw [← hpm]; exact xa_sub hdk2 hsuper2
  obtain ⟨vm₁, X₁, hstep₁⟩ := X.invokespecialUp hexec hown hlink hsame hn hmethM hstM habM hno hdk hnid hps hsuper hsub (a := b) (cell := cellB) hcell
    (fun z h => by rw [h] at hobj; cases hobj) hkB (g := g) hg (argsL := argsL) (rest := rest) (hlen _ hsigM) hstack hdg
  obtain ⟨v, B, X', hpost, hsteps⟩ := hK m meth c ⟨T.setVm vm₁, locs, cells, slots⟩ { g with stack := rest } (.invokespecial index) mk (Value.ref b :: argsL).toArray X₁ hg hsize hdg hW (X₁.named hnamed) (hpre vm₁ X₁.warmed)
  exact ⟨v, vm₁, B, X₁.warmed, X', hpost, fun target h => hstep₁ _ (by rw [doInvoke_state]; exact hsteps.trans h)⟩
theorem xa_coldUp {Q : Unit → Pre} {E : CtlPost} {d : Bool} {acts : List Action} {T s₀ : State} {f : JFrame} {index ci n cn : Nat} {r : MethodId} {dk ck : Class} {cf : ClassFile} {name desc : String} {via : Bool} (hs : T.topJava?.isSome) (hp : e.platform.polymorphicOnlyByInvokevirtual = true)
    (hW : s₀.WarmedH T.vm) (hE : s₀.MethodEntryUp e T.vm f.method.cls index cn r ci) (h1 : s₀.vm.classes[f.method.cls]? = some dk) (h2 : dk.cf = some cf)
    (h3 : cf.constantPool[index]? = some (if via then .interfaceMethodref ci n else .methodref ci n)) (h4 : cf.constantPool.nameAndType? n = some (name, desc))
    (hck : s₀.vm.classes[cn]? = some ck) (hnone : (ck.methods.any fun x => x.name == name && !x.isStatic && signaturePolymorphic ck x) = false) :
    wp (Op.invokestatic.sem index) Q E e d acts (T.setTop f) ↔ wp (Op.invokestatic.sem index) Q E e d acts ((T.setVm (T.vm.calledUp f.method.cls ci index cn r)).setTop f) := by
  obtain ⟨hgc, hrc, hW₁, hgm⟩ := hE.classFirst
  obtain ⟨k₀, hk₀, he₀⟩ := hW.alike.2.2 _ _ h1
  obtain ⟨k₂, hk₂, he₂⟩ := hE.warmed.alike.2.2 _ _ h1
  obtain ⟨c₁, hc₁, hec₁⟩ := hW₁.alike.2.2 _ _ hck
  obtain ⟨c₂, hc₂, hec₂⟩ := hE.warmed.alike.2.2 _ _ hck
  have hb₀ := memberRef_ask_via (e := e) hk₀ (by rw [he₀]; exact h2) h3 h4
  have hb₂ := memberRef_ask_via (e := e) hk₂ (by rw [he₂]; exact h2) h3 h4
  have hn₁ : (c₁.methods.any fun x => x.name == name && !x.isStatic && signaturePolymorphic c₁ x) = false := by rw [hec₁]; exact hnone
  have hn₂ : (c₂.methods.any fun x => x.name == name && !x.isStatic && signaturePolymorphic c₂ x) = false := by rw [hec₂]; exact hnone
  have hs₁ : (T.setVm (T.vm.noted f.method.cls ci (.cls cn))).topJava?.isSome := hs
  have hs₂ : (T.setVm (T.vm.calledUp f.method.cls ci index cn r)).topJava?.isSome := hs
  have hL : ∀ {Q' : ClassId → Pre} {d' : Bool} {acts' : List Action}, wp (Jvm.resolveClassAt ci) Q' E e d' acts' (T.setTop f) ↔ Q' cn d' acts' ((T.setVm (T.vm.noted f.method.cls ci (.cls cn))).setTop f) :=
    W.resolveClassAt_links (t := T.setTop f) (State.method?_setTop f hs) hgc
  have hM : ∀ {Q' : MethodId → Pre} {d' : Bool} {acts' : List Action}, wp (Jvm.resolveMethodAt index) Q' E e d' acts' ((T.setVm (T.vm.noted f.method.cls ci (.cls cn))).setTop f) ↔ Q' r d' acts' ((T.setVm (T.vm.calledUp f.method.cls ci index cn r)).setTop f) :=
    W.resolveMethodAt_links (t := (T.setVm (T.vm.noted f.method.cls ci (.cls cn))).setTop f) (State.method?_setTop f hs₁) hgm
  simp [Op.invokestatic.sem, hp, Seam.memberRefOf, State.method?_setTop f hs, State.method?_setTop f hs₂, hb₀, hb₂, hL, W.resolveClassAt_ready (s := (T.setVm (T.vm.calledUp f.method.cls ci index cn r)).setTop f) (State.method?_setTop f hs₂) hE.classReady,
    hc₁, hc₂, hn₁, hn₂, hM, W.resolveMethodAt_ready (s := (T.setVm (T.vm.calledUp f.method.cls ci index cn r)).setTop f) (State.method?_setTop f hs₂) hE.ready, -Array.any_eq_true]
theorem xa_statUp {T : State} {locs : List Loc} {cells slots : Nat} (X : Stand p l e R s m args below meth c T locs cells slots) (hexec : p.tables.exec = Jvm.exec)
    {own owner : String} {index : Nat} {x : MethodName} (hown : s.vm.findClass own = some m.cls) (hlink : (Cond.methodLink own index x).before args s = true)
    (hsame : (Cond.sameMethod x.cls owner x.name x.desc).before args s = true) (howner : owner ≠ "java/lang/invoke/MethodHandle" ∧ owner ≠ "java/lang/invoke/VarHandle")
    {r0 : MethodId} {r : Method} {kr : Class} (hn : s.methodNamed? ⟨owner, x.name, x.desc⟩ = some r0) (hrm : s.vm.method? r0 = some r) (hstatic : r.isStatic = true) (hkr : s.vm.classes[r0.cls]? = some kr) (hinit : kr.init = .initialized)
    {g : JFrame} (hg : g.method = m) {argsL rest : List Value} (hlen : argsL.length = r.sig.parameters.length) (hstack : g.stack = argsL.reverse ++ rest)
    (hdg : decode c.code g.pc = .ok (.invokestatic index, 3)) :
    ∃ vm', Stand p l e R s m args below meth c (T.setVm vm') locs cells slots ∧
      ∀ target, (∀ acts, Steps p.tables e below (doInvoke e ((T.setVm vm').setTop { g with stack := rest }) acts r0 argsL.toArray).1 target) → Steps p.tables e below (T.setTop g) target := by
  have hpl : e.platform.magicAccessors = ({} : Platform).magicAccessors := by rw [X.admits.platform]
  have hpv : e.platform.polymorphicOnlyByInvokevirtual = true := by rw [X.admits.platform]
  obtain ⟨cn, ck, r1, hcn, hck, hni, hf, hn1⟩ := Cond.sameMethod_found hsame
  cases hn.symm.trans hn1
  obtain ⟨ci, hl, hright⟩ := Cond.methodLink_specUp hown hcn hck hni hf hlink e.platform hpl (by rw [X.admits.platform])
  have hE : s.MethodEntryUp e T.vm m.cls index cn r0 ci := State.methodEntryUp X.warmed hl hright
  obtain ⟨kr', hkr', hnr⟩ := className_of_methodNamed hn
  cases hkr.symm.trans hkr'
  obtain ⟨dk, cfile, nt, mname, mdesc, ck₀, _, _, hd, hcf, hcp, hnt, -, -, hc₀, -, hpoly, -⟩ := hl.here
  cases hck.symm.trans hc₀
  have alike := hE.warmed.alike
  obtain ⟨dk₂, hdk₂, hed₂⟩ := alike.2.2 _ _ hd
  obtain ⟨kr₂, hkr₂, her₂⟩ := alike.2.2 _ _ hkr
  obtain ⟨ck₂, hck₂, hec₂⟩ := alike.2.2 _ _ hck
  have hnone : (ck.methods.any fun y => y.name == mname && !y.isStatic && signaturePolymorphic ck y) = false := by simp [hpoly]
  have hnone₂ : (ck₂.methods.any fun y => y.name == mname && !y.isStatic && signaturePolymorphic ck₂ y) = false := by rw [hec₂]; exact hnone
  refine ⟨T.vm.calledUp m.cls ci index cn r0, X.noted hE.warmed, fun target hrest => ?_⟩
  subst hg
  jvm_step X.here [hexec, hdg, xa_coldUp (e := e) (T := T) (s₀ := s) (f := g) (via := false) X.here.top hpv X.warmed hE hd hcf hcp hnt hck hnone,
    Op.invokestatic.wp_ready (e := e) (s := T.setVm (T.vm.calledUp g.method.cls ci index cn r0)) (k := kr₂) (meth := r) (m := r0) (args := argsL) (rest := rest) (f := g)
      X.here.top ⟨ci, mname, mdesc, false, cn, ck₂, memberRef_ask_via (e := e) (via := false) hdk₂ (by rw [hed₂]; exact hcf) hcp hnt, hE.classReady, hck₂, hnone₂⟩ hE.ready hkr₂
      (by show (T.vm.calledUp g.method.cls ci index cn r0).method? r0 = some r; rw [alike.method?]; exact hrm) (by rw [her₂]; show signaturePolymorphic kr r = false; simp [signaturePolymorphic, hnr, howner.1, howner.2]) hstatic (by rw [her₂]; exact hinit) hlen hstack]
  exact fun acts => hrest _
theorem xa_callSS {T : State} {locs : List Loc} {cells slots : Nat} (X : Stand p l e R s m args below meth c T locs cells slots) (hexec : p.tables.exec = Jvm.exec) {own : String} {index : Nat} {x y : MethodName} {bytes : ByteArray} {maxL : Nat} {ret : Option FieldType}
    (hown : s.vm.findClass own = some m.cls) (hlink : (Cond.methodLink own index x).before args s = true) (hsame : (Cond.sameMethod x.cls y.cls x.name x.desc).before args s = true) (hyx : y = ⟨y.cls, x.name, x.desc⟩) (hstat : (Cond.static y).before args s = true) (hini : (Cond.initialized y.cls).before args s = true)
    (hcode : (Cond.code y bytes maxL ret).before args s = true) (hy : y.cls ≠ "java/lang/invoke/MethodHandle" ∧ y.cls ≠ "java/lang/invoke/VarHandle")
    {W : Nat} {Pre : Pt → Array Value → Prop} {Post : Pt → Array Value → Option Value → Pt → Prop} (hK : Back l R p e below s args y 3 W Pre Post)
    {g : JFrame} (hg : g.method = m) (hsize : g.locals.size = c.maxLocals) {argsL rest : List Value} (hlen : ∀ sig, parseMethodDescriptor y.desc = some sig → argsL.length = sig.parameters.length)
    (hstack : g.stack = argsL.reverse ++ rest) (hW : 2 * g.monitorRoom + (rest.map fun v => v.category).sum ≤ W) (hdg : decode c.code g.pc = .ok (.invokestatic index, 3))
    (hpre : ∀ vm₁, s.WarmedH vm₁ → Pre ⟨T.setVm vm₁, locs, cells, slots⟩ argsL.toArray) :
    ∃ (v : Option Value) (vm₁ : Vm) (B : Pt), s.WarmedH vm₁ ∧ Stand p l e R s m args below meth c B.U B.locs B.cells B.slots ∧ Post ⟨T.setVm vm₁, locs, cells, slots⟩ argsL.toArray v B ∧
      ∀ target, Steps p.tables e below (B.U.setTop { g with pc := g.pc + 3, stack := v.toList ++ rest }) target → Steps p.tables e below (T.setTop g) target := by
  obtain ⟨mk, hnamed⟩ := Cond.code_named hcode
  obtain ⟨methM, cM, hmethM, -, -, -, -, -, -, hsigM⟩ := Cond.code_spec hnamed hcode
  have hstatic : methM.isStatic = true := Cond.static_spec hnamed hmethM hstat
  obtain ⟨kP, hkP, -⟩ := className_of_methodNamed hnamed
  have hinitP : kP.init = .initialized := Cond.initialized_spec (findClass_of_methodNamed hnamed) hkP hini
  have hn : s.methodNamed? ⟨y.cls, x.name, x.desc⟩ = some mk := by rw [← hyx]; exact hnamed
  obtain ⟨vm₁, X₁, hstep₁⟩ := xa_statUp X hexec hown hlink hsame hy hn hmethM hstatic hkP hinitP (g := g) hg (argsL := argsL) (rest := rest) (hlen _ hsigM) hstack hdg
  obtain ⟨v, B, X', hpost, hsteps⟩ := hK m meth c ⟨T.setVm vm₁, locs, cells, slots⟩ { g with stack := rest } (.invokestatic index) mk argsL.toArray X₁ hg hsize hdg hW (X₁.named hnamed) (hpre vm₁ X₁.warmed)
  exact ⟨v, vm₁, B, X₁.warmed, X', hpost, fun target h => hstep₁ _ fun acts => by rw [doInvoke_state]; exact hsteps.trans h⟩
end CX
/-- super.x() that a class above the superclass declares: Y' -/
def xLsx (own : String) (idx : Nat) (x : MethodName) (Y' : MI) (np : Nat) : Prop := Cond.methodLink own idx x ∈ xw ∧ Cond.sameMethod x.cls Y'.1.cls x.name x.desc ∈ xw ∧ Y'.1 = ⟨Y'.1.cls, x.name, x.desc⟩ ∧ Cond.superclass own x.cls ∈ xw ∧ Cond.superclass x.cls Y'.1.cls ∈ xw ∧ Cond.instanceMethod Y'.1 ∈ xw ∧ Cond.initialized Y'.1.cls ∈ xw ∧ Cond.code Y'.1 Y'.2.1 Y'.2.2.1 Y'.2.2.2.1 ∈ xw ∧ x.name ≠ "<init>" ∧ (parseMethodDescriptor Y'.1.desc).map (fun d => d.parameters.length) = some np ∧ Y'.2.2.1 ≤ 45
/-- a static method x that a class above x's declares: Y' -/
def xLsS (own : String) (idx : Nat) (x : MethodName) (Y' : MI) (np : Nat) : Prop := Cond.methodLink own idx x ∈ xw ∧ Cond.sameMethod x.cls Y'.1.cls x.name x.desc ∈ xw ∧ Y'.1 = ⟨Y'.1.cls, x.name, x.desc⟩ ∧ Cond.static Y'.1 ∈ xw ∧ Cond.initialized Y'.1.cls ∈ xw ∧ Cond.code Y'.1 Y'.2.1 Y'.2.2.1 Y'.2.2.2.1 ∈ xw ∧ (Y'.1.cls ≠ "java/lang/invoke/MethodHandle" ∧ Y'.1.cls ≠ "java/lang/invoke/VarHandle") ∧ (parseMethodDescriptor Y'.1.desc).map (fun d => d.parameters.length) = some np ∧ Y'.2.2.1 ≤ 45
section AX2
variable {G : xG} {X : xC} {Y Y' : MI} {d d' mc ms mc' ms' n np idx a : Nat} {cs : List (Int32 × Nat)} {K : Nat → Nat × Nat} {I : Nat → Nat → Int32} {P : Nat → Nat → Option Nat} {cells slots pc nx r : Nat} {lv st as rest : List Value} {Post' : xPost}
theorem ax_SX {x : MethodName} {c w : Nat} (hX : xAmb G X Y d mc ms) (hY : xpOK Y = true) (hs : xlook Y.2.2.2.2.1 pc = some (.invokespecial idx, nx, a, cs)) (hl : xLsx Y.1.cls idx x Y' np) (hr : r < n) (hk : K r = (c, w)) (hc13 : c < 13) (hc : cM G d' Y' (.ref r :: as) n K I P mc' ms' Post') (hd' : d' < d) (hn : as.length = np) (hst : st = as.reverse ++ .ref r :: rest) (hr8 : (rest.map fun v => v.category).sum ≤ 8) (hm : cells + mc' ≤ mc ∧ slots + ms' ≤ ms)
    (kk : ∀ v n' K' I' P', Post' v n' K' I' P' → aW G X Y n' K' I' P' (cells + mc') (slots + ms') nx lv (v.toList ++ rest)) : aW G X Y n K I P cells slots pc lv st := by
  obtain ⟨hd, -, hlen, -⟩ := xdec hY hs
  obtain rfl : nx = pc + 3 := by simpa [xlen] using hlen
  rw [Nat.add_sub_cancel_left] at hd
  intro H locs ls hR hlo hlv
  have hts := hX.2.2.2.2.1
  obtain ⟨h1, h2, h3, h4, h4b, h5, h6, h7, h8, h9, h10⟩ := hl
  have ha := hR.at hr
  rw [xE_obj hk hc13] at ha
  have hK := hX.2.2.2.2.2.1.1
  have hrec := va_recv hK (va_P_one ha) (xCl_get hc13) (q0 := 0) rfl
  have e1 : xmu G r = G.2.2.1 + r := xmu_new (hR.lt hr)
  have hxm := xmono (mc' := mc') (ms' := ms') hX hd' h10
  obtain ⟨p, l, e, R, s, m, args, below, meth, cde, Q⟩ := X
  dsimp only at hts hK hrec hxm hX ⊢
  have hblind : FrameBlind (cPre G (.ref r :: as) n K I P) := cPre_blind
  have hK2 : Back l R p e below s args Y'.1 3 8 (PreOf R mc' ms' (cPre G (.ref r :: as) n K I P)) (PostOf (cPost G Post') mc' ms' (xA G)) :=
    back_of (bytes := Y'.2.1) (maxL := Y'.2.2.1) (ret := Y'.2.2.2.1) (ws := cWs Y') (rm := rmD d' mc' ms') (hc l) hblind rfl rfl hxm.1 hxm.2 (pay_in hts (xgood h7)) List.mem_cons_self (fun a' U hW => word_at hW (Or.inl (by first | rfl | simp [Cond.onTables, Cond.keeps, Cond.steady])) (hts _ h6))
  obtain ⟨cellB, hcB, hoB, hclB⟩ := hrec
  obtain ⟨hfc, kB, hkB, -⟩ := (hK.1 c _ (xCl_get hc13)).2
  have hce : G.1.1 c = cellB.cls := Option.some.inj (hfc.symm.trans hclB)
  rw [hce] at hkB
  have hrun : va_Run p l e R s m args below meth cde H locs cells slots mc' ms' (F0 m pc ls (st.map (xv G))) (rest.map (xv G)) (cPost G Post' (Value.ref (G.2.2.1 + r) :: as.map (xv G)).toArray) (xA G) := by
    intro T hT X
    obtain ⟨v, vm₁, ⟨U', l2, c2, s2⟩, hW₁, X', ⟨g', mk, t, L, e1', e2, hq, g1, hL, g2, g3⟩, st'⟩ := xa_callSX X hX.1 (bytes := Y'.2.1) (maxL := Y'.2.2.1) (ret := Y'.2.2.2.1) hX.2.2.2.1 (hts _ h1) (hts _ h2) h3 (hts _ h4) (hts _ h4b) (hts _ h5) (hts _ h7) h8 hK2 (b := G.2.2.1 + r) (by rw [hT]; exact hcB) hoB hkB (g := F0 m pc ls (st.map (xv G))) rfl (hlv.1.trans hX.2.2.1.symm) (argsL := as.map (xv G)) (rest := rest.map (xv G)) (fun sig h => by
        rw [h] at h9
        rw [List.length_map, hn]
        exact (Option.some.inj h9).symm) (by show st.map (xv G) = _; rw [hst, List.map_append, List.map_reverse, ← e1]; rfl) (lv_room (by rw [xcats]; exact hr8)) (by rw [hX.2.1]; exact hd)
      (fun vm₁ hW₁ => ⟨(xroom hX hm).1, (xroom hX hm).2, by rw [← e1]; rfl, by show xR G n K I P T.heap; rw [hT]; exact hR, hX.2.2.2.2.2.1.warm hW₁⟩)
    dsimp only [Pt.U, Pt.locs, Pt.cells, Pt.slots] at X' e1' e2 g1 g2 g3 st'
    subst g1; subst g2; subst g3
    exact ⟨v, (T.setVm vm₁).calling g' mk (Value.ref (G.2.2.1 + r) :: as.map (xv G)).toArray, t, U', L, hT, X', hL, e1', e2, hq, st'⟩
  refine xrun hrun hlo ?_
  intro v n' K' I' P' H1 locs1 hp hR1 hlo1
  have k2 := kk v n' K' I' P' hp H1 locs1 ls hR1 hlo1 hlv
  rw [List.map_append] at k2
  cases v <;> exact k2
theorem ax_SS {x : MethodName} (hX : xAmb G X Y d mc ms) (hY : xpOK Y = true) (hs : xlook Y.2.2.2.2.1 pc = some (.invokestatic idx, nx, a, cs)) (hl : xLsS Y.1.cls idx x Y' np) (hc : cM G d' Y' as n K I P mc' ms' Post') (hd' : d' < d) (hn : as.length = np) (hst : st = as.reverse ++ rest) (hr8 : (rest.map fun v => v.category).sum ≤ 8) (hm : cells + mc' ≤ mc ∧ slots + ms' ≤ ms)
    (kk : ∀ v n' K' I' P', Post' v n' K' I' P' → aW G X Y n' K' I' P' (cells + mc') (slots + ms') nx lv (v.toList ++ rest)) : aW G X Y n K I P cells slots pc lv st := by
  obtain ⟨hd, -, hlen, -⟩ := xdec hY hs
  obtain rfl : nx = pc + 3 := by simpa [xlen] using hlen
  rw [Nat.add_sub_cancel_left] at hd
  intro H locs ls hR hlo hlv
  have hts := hX.2.2.2.2.1
  obtain ⟨h1, h2, h3, h4, h6, h7, h8, h9, h10⟩ := hl
  have hxm := xmono (mc' := mc') (ms' := ms') hX hd' h10
  obtain ⟨p, l, e, R, s, m, args, below, meth, cde, Q⟩ := X
  dsimp only at hts hxm hX ⊢
  have hblind : FrameBlind (cPre G as n K I P) := cPre_blind
  have hK2 : Back l R p e below s args Y'.1 3 8 (PreOf R mc' ms' (cPre G as n K I P)) (PostOf (cPost G Post') mc' ms' (xA G)) :=
    back_of (bytes := Y'.2.1) (maxL := Y'.2.2.1) (ret := Y'.2.2.2.1) (ws := cWs Y') (rm := rmD d' mc' ms') (hc l) hblind rfl rfl hxm.1 hxm.2 (pay_in hts (xgood h7)) List.mem_cons_self (fun a' U hW => word_at hW (Or.inl (by first | rfl | simp [Cond.onTables, Cond.keeps, Cond.steady])) (hts _ h6))
  have hrun : va_Run p l e R s m args below meth cde H locs cells slots mc' ms' (F0 m pc ls (st.map (xv G))) (rest.map (xv G)) (cPost G Post' (as.map (xv G)).toArray) (xA G) := by
    intro T hT X
    obtain ⟨v, vm₁, ⟨U', l2, c2, s2⟩, hW₁, X', ⟨g', mk, t, L, e1', e2, hq, g1, hL, g2, g3⟩, st'⟩ := xa_callSS X hX.1 (bytes := Y'.2.1) (maxL := Y'.2.2.1) (ret := Y'.2.2.2.1) hX.2.2.2.1 (hts _ h1) (hts _ h2) h3 (hts _ h4) (hts _ h6) (hts _ h7) h8 hK2 (g := F0 m pc ls (st.map (xv G))) rfl (hlv.1.trans hX.2.2.1.symm) (argsL := as.map (xv G)) (rest := rest.map (xv G)) (fun sig h => by
        rw [h] at h9
        rw [List.length_map, hn]
        exact (Option.some.inj h9).symm) (by show st.map (xv G) = _; rw [hst, List.map_append, List.map_reverse]) (lv_room (by rw [xcats]; exact hr8)) (by rw [hX.2.1]; exact hd)
      (fun vm₁ hW₁ => ⟨(xroom hX hm).1, (xroom hX hm).2, rfl, by show xR G n K I P T.heap; rw [hT]; exact hR, hX.2.2.2.2.2.1.warm hW₁⟩)
    dsimp only [Pt.U, Pt.locs, Pt.cells, Pt.slots] at X' e1' e2 g1 g2 g3 st'
    subst g1; subst g2; subst g3
    exact ⟨v, (T.setVm vm₁).calling g' mk (as.map (xv G)).toArray, t, U', L, hT, X', hL, e1', e2, hq, st'⟩
  refine xrun hrun hlo ?_
  intro v n' K' I' P' H1 locs1 hp hR1 hlo1
  have k2 := kk v n' K' I' P' hp H1 locs1 ls hR1 hlo1 hlv
  rw [List.map_append] at k2
  cases v <;> exact k2
end AX2
end
section
theorem ok_Black_init : xpOK m_Black_init = true := by decide +kernel
theorem ok_Black_kind : xpOK m_Black_kind = true := by decide +kernel
theorem ok_Black_isOf : xpOK m_Black_isOf = true := by decide +kernel
theorem ok_Black_late : xpOK m_Black_late = true := by decide +kernel
theorem ok_Black_stuff : xpOK m_Black_stuff = true := by decide +kernel
theorem ok_Black_draws : xpOK m_Black_draws = true := by decide +kernel
theorem ok_Child_init : xpOK m_Child_init = true := by decide +kernel
theorem ok_Child_kind : xpOK m_Child_kind = true := by decide +kernel
theorem ok_Child_isOf : xpOK m_Child_isOf = true := by decide +kernel
theorem ok_Child_early : xpOK m_Child_early = true := by decide +kernel
theorem ok_Child_late : xpOK m_Child_late = true := by decide +kernel
theorem ok_Child_gap : xpOK m_Child_gap = true := by decide +kernel
theorem ok_Child_dries : xpOK m_Child_dries = true := by decide +kernel
theorem ok_Forged_init : xpOK m_Forged_init = true := by decide +kernel
theorem ok_Forged_kind : xpOK m_Forged_kind = true := by decide +kernel
theorem ok_Forged_isOf : xpOK m_Forged_isOf = true := by decide +kernel
theorem ok_Forged_early : xpOK m_Forged_early = true := by decide +kernel
theorem ok_Forged_late : xpOK m_Forged_late = true := by decide +kernel
theorem ok_Forged_gap : xpOK m_Forged_gap = true := by decide +kernel
theorem ok_Forged_peels : xpOK m_Forged_peels = true := by decide +kernel
theorem ok_Forged_tells : xpOK m_Forged_tells = true := by decide +kernel
theorem ok_Red_init : xpOK m_Red_init = true := by decide +kernel
theorem ok_Red_kind : xpOK m_Red_kind = true := by decide +kernel
theorem ok_Red_isOf : xpOK m_Red_isOf = true := by decide +kernel
theorem ok_Red_early : xpOK m_Red_early = true := by decide +kernel
theorem ok_Red_stuff : xpOK m_Red_stuff = true := by decide +kernel
theorem ok_Red_gap : xpOK m_Red_gap = true := by decide +kernel
theorem ok_Red_dries : xpOK m_Red_dries = true := by decide +kernel
theorem ok_Scratch_init : xpOK m_Scratch_init = true := by decide +kernel
theorem ok_Scratch_kind : xpOK m_Scratch_kind = true := by decide +kernel
theorem ok_Scratch_isOf : xpOK m_Scratch_isOf = true := by decide +kernel
theorem ok_Scratch_early : xpOK m_Scratch_early = true := by decide +kernel
theorem ok_Scratch_stuff : xpOK m_Scratch_stuff = true := by decide +kernel
theorem ok_Scratch_gap : xpOK m_Scratch_gap = true := by decide +kernel
theorem ok_Scratch_peels : xpOK m_Scratch_peels = true := by decide +kernel
theorem ok_Sets_init : xpOK m_Sets_init = true := by decide +kernel
theorem ok_Sets_allOf : xpOK m_Sets_allOf = true := by decide +kernel
theorem ok_Sets_has : xpOK m_Sets_has = true := by decide +kernel
theorem ok_Sets_findBelow : xpOK m_Sets_findBelow = true := by decide +kernel
theorem ok_Sets_readyAfter : xpOK m_Sets_readyAfter = true := by decide +kernel
theorem ok_Sets_countOrders : xpOK m_Sets_countOrders = true := by decide +kernel
theorem ok_Sets_surely : xpOK m_Sets_surely = true := by decide +kernel
theorem ok_Sets_lossOf : xpOK m_Sets_lossOf = true := by decide +kernel
theorem ok_Sets_findLosses : xpOK m_Sets_findLosses = true := by decide +kernel
theorem ok_Sets_findBestOrder : xpOK m_Sets_findBestOrder = true := by decide +kernel
theorem ok_Sets_firstOfBest : xpOK m_Sets_firstOfBest = true := by decide +kernel
theorem ok_Sets_leastLoss : xpOK m_Sets_leastLoss = true := by decide +kernel
theorem ok_Sets_looksNotHeld : xpOK m_Sets_looksNotHeld = true := by decide +kernel
theorem ok_Sets_findBeasts : xpOK m_Sets_findBeasts = true := by decide +kernel
theorem ok_Sets_lowestOf : xpOK m_Sets_lowestOf = true := by decide +kernel
theorem ok_Sets_findJoinings : xpOK m_Sets_findJoinings = true := by decide +kernel
theorem ok_Sets_joiningCount : xpOK m_Sets_joiningCount = true := by decide +kernel
theorem ok_Sets_fewestBeasts : xpOK m_Sets_fewestBeasts = true := by decide +kernel
theorem ok_Sets_findTimes : xpOK m_Sets_findTimes = true := by decide +kernel
theorem ok_Sets_findAlike : xpOK m_Sets_findAlike = true := by decide +kernel
theorem ok_Sets_fewestTimes : xpOK m_Sets_fewestTimes = true := by decide +kernel
theorem ok_Sets_firstTime : xpOK m_Sets_firstTime = true := by decide +kernel
theorem ok_Sets_areAlike : xpOK m_Sets_areAlike = true := by decide +kernel
theorem ok_Soot_init : xpOK m_Soot_init = true := by decide +kernel
theorem ok_Soot_kind : xpOK m_Soot_kind = true := by decide +kernel
theorem ok_Soot_isOf : xpOK m_Soot_isOf = true := by decide +kernel
theorem ok_Soot_early : xpOK m_Soot_early = true := by decide +kernel
theorem ok_Soot_late : xpOK m_Soot_late = true := by decide +kernel
theorem ok_Soot_gap : xpOK m_Soot_gap = true := by decide +kernel
theorem ok_Soot_tells : xpOK m_Soot_tells = true := by decide +kernel
theorem ok_Spans_init : xpOK m_Spans_init = true := by decide +kernel
theorem ok_Spans_load : xpOK m_Spans_load = true := by decide +kernel
theorem ok_Spans_settle : xpOK m_Spans_settle = true := by decide +kernel
theorem ok_Spans_pushUp : xpOK m_Spans_pushUp = true := by decide +kernel
theorem ok_Spans_pushDown : xpOK m_Spans_pushDown = true := by decide +kernel
theorem ok_Spans_widthByTest : xpOK m_Spans_widthByTest = true := by decide +kernel
theorem ok_Spans_widthOf : xpOK m_Spans_widthOf = true := by decide +kernel
theorem ok_Spans_findNext : xpOK m_Spans_findNext = true := by decide +kernel
theorem ok_Spans_worstOf : xpOK m_Spans_worstOf = true := by decide +kernel
theorem ok_Stroke_init : xpOK m_Stroke_init = true := by decide +kernel
theorem ok_Stroke_copyFrom : xpOK m_Stroke_copyFrom = true := by decide +kernel
theorem ok_Stroke_part : xpOK m_Stroke_part = true := by decide +kernel
theorem ok_Stroke_setPart : xpOK m_Stroke_setPart = true := by decide +kernel
theorem ok_Stroke_begin : xpOK m_Stroke_begin = true := by decide +kernel
theorem ok_Stroke_kind : xpOK m_Stroke_kind = true := by decide +kernel
theorem ok_Stroke_isOf : xpOK m_Stroke_isOf = true := by decide +kernel
theorem ok_Stroke_early : xpOK m_Stroke_early = true := by decide +kernel
theorem ok_Stroke_late : xpOK m_Stroke_late = true := by decide +kernel
theorem ok_Stroke_stuff : xpOK m_Stroke_stuff = true := by decide +kernel
theorem ok_Stroke_gap : xpOK m_Stroke_gap = true := by decide +kernel
theorem ok_Stroke_draws : xpOK m_Stroke_draws = true := by decide +kernel
theorem ok_Stroke_dries : xpOK m_Stroke_dries = true := by decide +kernel
theorem ok_Stroke_peels : xpOK m_Stroke_peels = true := by decide +kernel
theorem ok_Stroke_tells : xpOK m_Stroke_tells = true := by decide +kernel
theorem ok_Text_init : xpOK m_Text_init = true := by decide +kernel
theorem ok_Text_copyFrom : xpOK m_Text_copyFrom = true := by decide +kernel
theorem ok_Text_isEmpty : xpOK m_Text_isEmpty = true := by decide +kernel
theorem ok_Text_read : xpOK m_Text_read = true := by decide +kernel
theorem ok_Text_here : xpOK m_Text_here = true := by decide +kernel
theorem ok_Text_isDigit : xpOK m_Text_isDigit = true := by decide +kernel
theorem ok_Text_levelOf : xpOK m_Text_levelOf = true := by decide +kernel
theorem ok_Text_readLevel : xpOK m_Text_readLevel = true := by decide +kernel
theorem ok_Text_readLeaf : xpOK m_Text_readLeaf = true := by decide +kernel
theorem ok_Text_readNot : xpOK m_Text_readNot = true := by decide +kernel
theorem ok_Text_readBracket : xpOK m_Text_readBracket = true := by decide +kernel
theorem ok_Text_readNumber : xpOK m_Text_readNumber = true := by decide +kernel
theorem ok_Text_addStep : xpOK m_Text_addStep = true := by decide +kernel
theorem ok_Text_workOut : xpOK m_Text_workOut = true := by decide +kernel
theorem ok_Text_named : xpOK m_Text_named = true := by decide +kernel
theorem ok_Text_joined : xpOK m_Text_joined = true := by decide +kernel
theorem ok_Wall_init : xpOK m_Wall_init = true := by decide +kernel
theorem ok_Wall_copyFrom : xpOK m_Wall_copyFrom = true := by decide +kernel
theorem ok_Wall_within : xpOK m_Wall_within = true := by decide +kernel
theorem ok_Wall_held : xpOK m_Wall_held = true := by decide +kernel
theorem ok_Wall_far : xpOK m_Wall_far = true := by decide +kernel
theorem ok_Wall_hasStroke : xpOK m_Wall_hasStroke = true := by decide +kernel
theorem ok_Wall_areTwo : xpOK m_Wall_areTwo = true := by decide +kernel
theorem ok_Wall_blankOfKind : xpOK m_Wall_blankOfKind = true := by decide +kernel
theorem ok_Wall_makeOfKind : xpOK m_Wall_makeOfKind = true := by decide +kernel
theorem ok_Wall_addStroke : xpOK m_Wall_addStroke = true := by decide +kernel
theorem ok_Wall_earlyOf : xpOK m_Wall_earlyOf = true := by decide +kernel
theorem ok_Wall_lateOf : xpOK m_Wall_lateOf = true := by decide +kernel
theorem ok_Wall_datesOf : xpOK m_Wall_datesOf = true := by decide +kernel
theorem ok_Wall_twoJoin : xpOK m_Wall_twoJoin = true := by decide +kernel
theorem ok_Wall_handsFrom : xpOK m_Wall_handsFrom = true := by decide +kernel
theorem ok_Wall_hasLook : xpOK m_Wall_hasLook = true := by decide +kernel
theorem ok_Wall_isLook : xpOK m_Wall_isLook = true := by decide +kernel
theorem ok_Wall_addLook : xpOK m_Wall_addLook = true := by decide +kernel
theorem ok_Wall_turnLook : xpOK m_Wall_turnLook = true := by decide +kernel
theorem ok_Wall_weightOf : xpOK m_Wall_weightOf = true := by decide +kernel
theorem ok_Wall_drawn : xpOK m_Wall_drawn = true := by decide +kernel
theorem ok_Wall_holdsUpTo : xpOK m_Wall_holdsUpTo = true := by decide +kernel
theorem ok_Wall_addBytes : xpOK m_Wall_addBytes = true := by decide +kernel
theorem ok_Wall_readTape : xpOK m_Wall_readTape = true := by decide +kernel
theorem ok_Wall_givenBy : xpOK m_Wall_givenBy = true := by decide +kernel
theorem ok_Wall_faultOfWaiting : xpOK m_Wall_faultOfWaiting = true := by decide +kernel
theorem ok_Wall_allBelowAre : xpOK m_Wall_allBelowAre = true := by decide +kernel
theorem ok_H_init : xpOK m_H_init = true := by decide +kernel
theorem ok_H_error : xpOK m_H_error = true := by decide +kernel
theorem ok_H_stroke : xpOK m_H_stroke = true := by decide +kernel
theorem ok_H_ofStroke : xpOK m_H_ofStroke = true := by decide +kernel
theorem ok_H_change : xpOK m_H_change = true := by decide +kernel
theorem ok_H_become : xpOK m_H_become = true := by decide +kernel
theorem ok_H_as : xpOK m_H_as = true := by decide +kernel
theorem ok_H_over : xpOK m_H_over = true := by decide +kernel
theorem ok_H_ofLook : xpOK m_H_ofLook = true := by decide +kernel
theorem ok_H_see : xpOK m_H_see = true := by decide +kernel
theorem ok_H_forget : xpOK m_H_forget = true := by decide +kernel
theorem ok_H_feed : xpOK m_H_feed = true := by decide +kernel
theorem ok_H_text : xpOK m_H_text = true := by decide +kernel
theorem ok_H_law : xpOK m_H_law = true := by decide +kernel
theorem ok_H_orders : xpOK m_H_orders = true := by decide +kernel
theorem ok_H_sure : xpOK m_H_sure = true := by decide +kernel
theorem ok_H_wrong : xpOK m_H_wrong = true := by decide +kernel
theorem ok_H_best : xpOK m_H_best = true := by decide +kernel
theorem ok_H_span : xpOK m_H_span = true := by decide +kernel
theorem ok_H_test : xpOK m_H_test = true := by decide +kernel
theorem ok_H_next : xpOK m_H_next = true := by decide +kernel
theorem ok_H_join : xpOK m_H_join = true := by decide +kernel
theorem ok_H_joinings : xpOK m_H_joinings = true := by decide +kernel
theorem ok_H_times : xpOK m_H_times = true := by decide +kernel
theorem ok_H_lamp : xpOK m_H_lamp = true := by decide +kernel
theorem ok_H_hand : xpOK m_H_hand = true := by decide +kernel
theorem ok_H_again : xpOK m_H_again = true := by decide +kernel
theorem ok_H_seed : xpOK m_H_seed = true := by decide +kernel
theorem ok_H_voice : xpOK m_H_voice = true := by decide +kernel
theorem ok_H_trace : xpOK m_H_trace = true := by decide +kernel
theorem ok_H_isSheet : xpOK m_H_isSheet = true := by decide +kernel
theorem ok_H_areBits : xpOK m_H_areBits = true := by decide +kernel
theorem ok_H_sheet : xpOK m_H_sheet = true := by decide +kernel
theorem ok_H_put : xpOK m_H_put = true := by decide +kernel
theorem ok_H_stand : xpOK m_H_stand = true := by decide +kernel
theorem ok_H_move : xpOK m_H_move = true := by decide +kernel
theorem ok_H_looks : xpOK m_H_looks = true := by decide +kernel
theorem ok_H_judge : xpOK m_H_judge = true := by decide +kernel
theorem ok_H_image : xpOK m_H_image = true := by decide +kernel
theorem ok_H_restore : xpOK m_H_restore = true := by decide +kernel
theorem ok_H_tell : xpOK m_H_tell = true := by decide +kernel
theorem ok_H_check : xpOK m_H_check = true := by decide +kernel
theorem ok_H_count : xpOK m_H_count = true := by decide +kernel
theorem ok_H_told : xpOK m_H_told = true := by decide +kernel
theorem ok_Int_bitCount : xpOK m_Int_bitCount = true := by decide +kernel
theorem ok_Math_abs : xpOK m_Math_abs = true := by decide +kernel
theorem ok_Math_max : xpOK m_Math_max = true := by decide +kernel
theorem ok_Math_min : xpOK m_Math_min = true := by decide +kernel
end
section
theorem ok_Model_init : xpOK m_Model_init = true := by decide +kernel
theorem ok_Model_finds : xpOK m_Model_finds = true := by decide +kernel
theorem ok_Model_in : xpOK m_Model_in = true := by decide +kernel
theorem ok_Model_held : xpOK m_Model_held = true := by decide +kernel
theorem ok_Model_size : xpOK m_Model_size = true := by decide +kernel
theorem ok_Model_copies : xpOK m_Model_copies = true := by decide +kernel
theorem ok_Model_isStroke : xpOK m_Model_isStroke = true := by decide +kernel
theorem ok_Model_isLook : xpOK m_Model_isLook = true := by decide +kernel
theorem ok_Model_of : xpOK m_Model_of = true := by decide +kernel
theorem ok_Model_becomes : xpOK m_Model_becomes = true := by decide +kernel
theorem ok_Model_upper : xpOK m_Model_upper = true := by decide +kernel
theorem ok_Model_lower : xpOK m_Model_lower = true := by decide +kernel
theorem ok_Model_here : xpOK m_Model_here = true := by decide +kernel
theorem ok_Model_wrong : xpOK m_Model_wrong = true := by decide +kernel
theorem ok_Model_takes : xpOK m_Model_takes = true := by decide +kernel
theorem ok_Model_nameOf : xpOK m_Model_nameOf = true := by decide +kernel
theorem ok_Model_either : xpOK m_Model_either = true := by decide +kernel
theorem ok_Model_both : xpOK m_Model_both = true := by decide +kernel
theorem ok_Model_compared : xpOK m_Model_compared = true := by decide +kernel
theorem ok_Model_sum : xpOK m_Model_sum = true := by decide +kernel
theorem ok_Model_product : xpOK m_Model_product = true := by decide +kernel
theorem ok_Model_unit : xpOK m_Model_unit = true := by decide +kernel
theorem ok_Model_worked : xpOK m_Model_worked = true := by decide +kernel
theorem ok_Model_feed : xpOK m_Model_feed = true := by decide +kernel
theorem ok_Model_text : xpOK m_Model_text = true := by decide +kernel
theorem ok_Model_gives : xpOK m_Model_gives = true := by decide +kernel
theorem ok_Model_law : xpOK m_Model_law = true := by decide +kernel
theorem ok_Model_stroke : xpOK m_Model_stroke = true := by decide +kernel
theorem ok_Model_dates : xpOK m_Model_dates = true := by decide +kernel
theorem ok_Model_earlyOf : xpOK m_Model_earlyOf = true := by decide +kernel
theorem ok_Model_lateOf : xpOK m_Model_lateOf = true := by decide +kernel
theorem ok_Model_stuffOf : xpOK m_Model_stuffOf = true := by decide +kernel
theorem ok_Model_stuff : xpOK m_Model_stuff = true := by decide +kernel
theorem ok_Model_ofStroke : xpOK m_Model_ofStroke = true := by decide +kernel
theorem ok_Model_mostOf : xpOK m_Model_mostOf = true := by decide +kernel
theorem ok_Model_change : xpOK m_Model_change = true := by decide +kernel
theorem ok_Model_become : xpOK m_Model_become = true := by decide +kernel
theorem ok_Model_above : xpOK m_Model_above = true := by decide +kernel
theorem ok_Model_as : xpOK m_Model_as = true := by decide +kernel
theorem ok_Model_isTold : xpOK m_Model_isTold = true := by decide +kernel
theorem ok_Model_lookComes : xpOK m_Model_lookComes = true := by decide +kernel
theorem ok_Model_over : xpOK m_Model_over = true := by decide +kernel
theorem ok_Model_weightOf : xpOK m_Model_weightOf = true := by decide +kernel
theorem ok_Model_ofLook : xpOK m_Model_ofLook = true := by decide +kernel
theorem ok_Model_see : xpOK m_Model_see = true := by decide +kernel
theorem ok_Model_forget : xpOK m_Model_forget = true := by decide +kernel
theorem ok_Model_allStrokes : xpOK m_Model_allStrokes = true := by decide +kernel
theorem ok_Model_findBelow : xpOK m_Model_findBelow = true := by decide +kernel
theorem ok_Model_mayLie : xpOK m_Model_mayLie = true := by decide +kernel
theorem ok_Model_countWays : xpOK m_Model_countWays = true := by decide +kernel
theorem ok_Model_orders : xpOK m_Model_orders = true := by decide +kernel
theorem ok_Model_sure : xpOK m_Model_sure = true := by decide +kernel
theorem ok_Model_costs : xpOK m_Model_costs = true := by decide +kernel
theorem ok_Model_findBest : xpOK m_Model_findBest = true := by decide +kernel
theorem ok_Model_whichWrong : xpOK m_Model_whichWrong = true := by decide +kernel
theorem ok_Model_wrong_ : xpOK m_Model_wrong_ = true := by decide +kernel
theorem ok_Model_best : xpOK m_Model_best = true := by decide +kernel
theorem ok_Model_findYears : xpOK m_Model_findYears = true := by decide +kernel
theorem ok_Model_pushes : xpOK m_Model_pushes = true := by decide +kernel
theorem ok_Model_span : xpOK m_Model_span = true := by decide +kernel
theorem ok_Model_widthBy : xpOK m_Model_widthBy = true := by decide +kernel
theorem ok_Model_test : xpOK m_Model_test = true := by decide +kernel
theorem ok_Model_worstOf : xpOK m_Model_worstOf = true := by decide +kernel
theorem ok_Model_next : xpOK m_Model_next = true := by decide +kernel
theorem ok_Model_gapOf : xpOK m_Model_gapOf = true := by decide +kernel
theorem ok_Model_farOf : xpOK m_Model_farOf = true := by decide +kernel
theorem ok_Model_joined : xpOK m_Model_joined = true := by decide +kernel
theorem ok_Model_join : xpOK m_Model_join = true := by decide +kernel
theorem ok_Model_isBeast : xpOK m_Model_isBeast = true := by decide +kernel
theorem ok_Model_joinings : xpOK m_Model_joinings = true := by decide +kernel
theorem ok_Model_mayCome : xpOK m_Model_mayCome = true := by decide +kernel
theorem ok_Model_times : xpOK m_Model_times = true := by decide +kernel
theorem ok_Model_lamp : xpOK m_Model_lamp = true := by decide +kernel
theorem ok_Model_isHand : xpOK m_Model_isHand = true := by decide +kernel
theorem ok_Model_ones : xpOK m_Model_ones = true := by decide +kernel
theorem ok_Model_hand : xpOK m_Model_hand = true := by decide +kernel
theorem ok_Model_drawn : xpOK m_Model_drawn = true := by decide +kernel
theorem ok_Model_again : xpOK m_Model_again = true := by decide +kernel
theorem ok_Model_seed : xpOK m_Model_seed = true := by decide +kernel
theorem ok_Model_ran : xpOK m_Model_ran = true := by decide +kernel
theorem ok_Model_own : xpOK m_Model_own = true := by decide +kernel
theorem ok_Model_draws : xpOK m_Model_draws = true := by decide +kernel
theorem ok_Model_dries : xpOK m_Model_dries = true := by decide +kernel
theorem ok_Model_peels : xpOK m_Model_peels = true := by decide +kernel
theorem ok_Model_tells : xpOK m_Model_tells = true := by decide +kernel
theorem ok_Model_voice : xpOK m_Model_voice = true := by decide +kernel
theorem ok_Model_trace : xpOK m_Model_trace = true := by decide +kernel
theorem ok_Model_isSheet : xpOK m_Model_isSheet = true := by decide +kernel
theorem ok_Model_sheet : xpOK m_Model_sheet = true := by decide +kernel
theorem ok_Model_put : xpOK m_Model_put = true := by decide +kernel
theorem ok_Model_move : xpOK m_Model_move = true := by decide +kernel
theorem ok_Model_whyNot : xpOK m_Model_whyNot = true := by decide +kernel
theorem ok_Model_looks : xpOK m_Model_looks = true := by decide +kernel
theorem ok_Model_isRight : xpOK m_Model_isRight = true := by decide +kernel
theorem ok_Model_judge : xpOK m_Model_judge = true := by decide +kernel
theorem ok_Model_image : xpOK m_Model_image = true := by decide +kernel
theorem ok_Model_restore : xpOK m_Model_restore = true := by decide +kernel
theorem ok_Model_tell : xpOK m_Model_tell = true := by decide +kernel
theorem ok_Model_check : xpOK m_Model_check = true := by decide +kernel
theorem ok_Model_count : xpOK m_Model_count = true := by decide +kernel
theorem ok_Model_told : xpOK m_Model_told = true := by decide +kernel
end
section
theorem xLk_of {own : String} {idx : Nat} {Y' : MI} {np : Nat} (p1 p2 p3 : Nat) (h : (decide (lw_tbl[p1]? = some (.methodLink own idx Y'.1)) && (decide (lw_tbl[p2]? = some (.initialized Y'.1.cls)) && (decide (lw_tbl[p3]? = some (.code Y'.1 Y'.2.1 Y'.2.2.1 Y'.2.2.2.1)) && (decide (Y'.1.cls ≠ "java/lang/invoke/MethodHandle") && (decide (Y'.1.cls ≠ "java/lang/invoke/VarHandle") && (decide ((parseMethodDescriptor Y'.1.desc).map (fun d => d.parameters.length) = some np) && decide (Y'.2.2.1 ≤ 45))))))) = true) : xLk own idx Y' np := by
  simp only [Bool.and_eq_true, decide_eq_true_eq] at h
  obtain ⟨h1, h2, h3, h4, h5, h6, h7⟩ := h
  exact ⟨xw_of (List.mem_of_getElem? h1) rfl, xw_of (List.mem_of_getElem? h2) rfl, xw_of (List.mem_of_getElem? h3) rfl, ⟨h4, h5⟩, h6, h7⟩
theorem xLu_of {own : String} {idx : Nat} {C : String} {x : MethodName} {Y0 Y' : MI} {np : Nat} (p1 p2 p3 p4 p5 p6 p7 p8 : Nat) (h : (decide (lw_tbl[p1]? = some (.methodLink own idx x)) && (decide (lw_tbl[p2]? = some (.sameMethod x.cls Y0.1.cls x.name x.desc)) && (decide (Y0.1 = ⟨Y0.1.cls, x.name, x.desc⟩) && (decide (lw_tbl[p3]? = some (.instanceMethod Y0.1)) && (decide (lw_tbl[p4]? = some (.code Y0.1 Y0.2.1 Y0.2.2.1 Y0.2.2.2.1)) && (decide (lw_tbl[p5]? = some (.selects C x Y'.1)) && (decide (lw_tbl[p6]? = some (.instanceMethod Y'.1)) && (decide (lw_tbl[p7]? = some (.initialized Y'.1.cls)) && (decide (lw_tbl[p8]? = some (.code Y'.1 Y'.2.1 Y'.2.2.1 Y'.2.2.2.1)) && (decide (Y0.1.cls ≠ "java/lang/invoke/MethodHandle") && (decide (Y0.1.cls ≠ "java/lang/invoke/VarHandle") && (decide ((parseMethodDescriptor x.desc).map (fun d => d.parameters.length) = some np) && decide (Y'.2.2.1 ≤ 45))))))))))))) = true) : xLu own idx C x Y0 Y' np := by
  simp only [Bool.and_eq_true, decide_eq_true_eq] at h
  obtain ⟨h1, h2, g0, g1, g2, h3, h4, h5, h6, h7, h8, h9, h10⟩ := h
  exact ⟨xw_of (List.mem_of_getElem? h1) rfl, xw_of (List.mem_of_getElem? h2) rfl, ⟨g0, xw_of (List.mem_of_getElem? g1) rfl, xw_of (List.mem_of_getElem? g2) rfl⟩, xw_of (List.mem_of_getElem? h3) rfl, xw_of (List.mem_of_getElem? h4) rfl, xw_of (List.mem_of_getElem? h5) rfl, xw_of (List.mem_of_getElem? h6) rfl, ⟨h7, h8⟩, h9, h10⟩
theorem xLsu_of {own : String} {idx : Nat} {Y' : MI} {np : Nat} (p1 p2 p3 p4 p5 p6 : Nat) (h : (decide (lw_tbl[p1]? = some (.methodLink own idx Y'.1)) && (decide (lw_tbl[p2]? = some (.sameMethod Y'.1.cls Y'.1.cls Y'.1.name Y'.1.desc)) && (decide (lw_tbl[p3]? = some (.superclass own Y'.1.cls)) && (decide (lw_tbl[p4]? = some (.instanceMethod Y'.1)) && (decide (lw_tbl[p5]? = some (.initialized Y'.1.cls)) && (decide (lw_tbl[p6]? = some (.code Y'.1 Y'.2.1 Y'.2.2.1 Y'.2.2.2.1)) && (decide (Y'.1.name ≠ "<init>") && (decide ((parseMethodDescriptor Y'.1.desc).map (fun d => d.parameters.length) = some np) && decide (Y'.2.2.1 ≤ 45))))))))) = true) : xLsu own idx Y' np := by
  simp only [Bool.and_eq_true, decide_eq_true_eq] at h
  obtain ⟨h1, h2, h3, h4, h5, h6, h7, h8, h9⟩ := h
  exact ⟨xw_of (List.mem_of_getElem? h1) rfl, xw_of (List.mem_of_getElem? h2) rfl, xw_of (List.mem_of_getElem? h3) rfl, xw_of (List.mem_of_getElem? h4) rfl, xw_of (List.mem_of_getElem? h5) rfl, xw_of (List.mem_of_getElem? h6) rfl, h7, h8, h9⟩
theorem xLsS_of {own : String} {idx : Nat} {x : MethodName} {Y' : MI} {np : Nat} (p1 p2 p3 p4 p5 : Nat) (h : (decide (lw_tbl[p1]? = some (.methodLink own idx x)) && (decide (lw_tbl[p2]? = some (.sameMethod x.cls Y'.1.cls x.name x.desc)) && (decide (Y'.1 = ⟨Y'.1.cls, x.name, x.desc⟩) && (decide (lw_tbl[p3]? = some (.static Y'.1)) && (decide (lw_tbl[p4]? = some (.initialized Y'.1.cls)) && (decide (lw_tbl[p5]? = some (.code Y'.1 Y'.2.1 Y'.2.2.1 Y'.2.2.2.1)) && (decide (Y'.1.cls ≠ "java/lang/invoke/MethodHandle") && (decide (Y'.1.cls ≠ "java/lang/invoke/VarHandle") && (decide ((parseMethodDescriptor Y'.1.desc).map (fun d => d.parameters.length) = some np) && decide (Y'.2.2.1 ≤ 45)))))))))) = true) : xLsS own idx x Y' np := by
  simp only [Bool.and_eq_true, decide_eq_true_eq] at h
  obtain ⟨h1, h2, h3, h4, h5, h6, h7, h8, h9, h10⟩ := h
  exact ⟨xw_of (List.mem_of_getElem? h1) rfl, xw_of (List.mem_of_getElem? h2) rfl, h3, xw_of (List.mem_of_getElem? h4) rfl, xw_of (List.mem_of_getElem? h5) rfl, xw_of (List.mem_of_getElem? h6) rfl, ⟨h7, h8⟩, h9, h10⟩
theorem xLsx_of {own : String} {idx : Nat} {x : MethodName} {Y' : MI} {np : Nat} (p1 p2 p3 p4 p5 p6 p7 : Nat) (h : (decide (lw_tbl[p1]? = some (.methodLink own idx x)) && (decide (lw_tbl[p2]? = some (.sameMethod x.cls Y'.1.cls x.name x.desc)) && (decide (Y'.1 = ⟨Y'.1.cls, x.name, x.desc⟩) && (decide (lw_tbl[p3]? = some (.superclass own x.cls)) && (decide (lw_tbl[p4]? = some (.superclass x.cls Y'.1.cls)) && (decide (lw_tbl[p5]? = some (.instanceMethod Y'.1)) && (decide (lw_tbl[p6]? = some (.initialized Y'.1.cls)) && (decide (lw_tbl[p7]? = some (.code Y'.1 Y'.2.1 Y'.2.2.1 Y'.2.2.2.1)) && (decide (x.name ≠ "<init>") && (decide ((parseMethodDescriptor Y'.1.desc).map (fun d => d.parameters.length) = some np) && decide (Y'.2.2.1 ≤ 45))))))))))) = true) : xLsx own idx x Y' np := by
  simp only [Bool.and_eq_true, decide_eq_true_eq] at h
  obtain ⟨h1, h2, h3, h4, h5, h6, h7, h8, h9, h10, h11⟩ := h
  exact ⟨xw_of (List.mem_of_getElem? h1) rfl, xw_of (List.mem_of_getElem? h2) rfl, h3, xw_of (List.mem_of_getElem? h4) rfl, xw_of (List.mem_of_getElem? h5) rfl, xw_of (List.mem_of_getElem? h6) rfl, xw_of (List.mem_of_getElem? h7) rfl, xw_of (List.mem_of_getElem? h8) rfl, h9, h10, h11⟩
theorem xw_at {w : Cond} (p : Nat) (h : (decide (lw_tbl[p]? = some w) && goodWord w) = true) : w ∈ xw := by
  simp only [Bool.and_eq_true, decide_eq_true_eq] at h
  exact xw_of (List.mem_of_getElem? h.1) h.2
def sel_draws (c : Nat) : MI := match c with
  | 0 => m_Stroke_draws
  | 1 => m_Stroke_draws
  | 2 => m_Black_draws
  | 3 => m_Stroke_draws
  | 4 => m_Stroke_draws
  | 5 => m_Black_draws
  | _ => m_Stroke_draws
def sel_dries (c : Nat) : MI := match c with
  | 0 => m_Stroke_dries
  | 1 => m_Red_dries
  | 2 => m_Stroke_dries
  | 3 => m_Stroke_dries
  | 4 => m_Child_dries
  | 5 => m_Stroke_dries
  | _ => m_Stroke_dries
def sel_peels (c : Nat) : MI := match c with
  | 0 => m_Stroke_peels
  | 1 => m_Stroke_peels
  | 2 => m_Stroke_peels
  | 3 => m_Scratch_peels
  | 4 => m_Stroke_peels
  | 5 => m_Stroke_peels
  | _ => m_Forged_peels
def sel_kind (c : Nat) : MI := match c with
  | 0 => m_Stroke_kind
  | 1 => m_Red_kind
  | 2 => m_Black_kind
  | 3 => m_Scratch_kind
  | 4 => m_Child_kind
  | 5 => m_Soot_kind
  | _ => m_Forged_kind
def sel_copyFrom (c : Nat) : MI := match c with
  | 0 => m_Stroke_copyFrom
  | 1 => m_Stroke_copyFrom
  | 2 => m_Stroke_copyFrom
  | 3 => m_Stroke_copyFrom
  | 4 => m_Stroke_copyFrom
  | 5 => m_Stroke_copyFrom
  | _ => m_Stroke_copyFrom
def sel_early (c : Nat) : MI := match c with
  | 0 => m_Stroke_early
  | 1 => m_Red_early
  | 2 => m_Stroke_early
  | 3 => m_Scratch_early
  | 4 => m_Child_early
  | 5 => m_Soot_early
  | _ => m_Forged_early
def sel_late (c : Nat) : MI := match c with
  | 0 => m_Stroke_late
  | 1 => m_Stroke_late
  | 2 => m_Black_late
  | 3 => m_Stroke_late
  | 4 => m_Child_late
  | 5 => m_Soot_late
  | _ => m_Forged_late
def sel_stuff (c : Nat) : MI := match c with
  | 0 => m_Stroke_stuff
  | 1 => m_Red_stuff
  | 2 => m_Black_stuff
  | 3 => m_Scratch_stuff
  | 4 => m_Red_stuff
  | 5 => m_Black_stuff
  | _ => m_Scratch_stuff
def sel_gap (c : Nat) : MI := match c with
  | 0 => m_Stroke_gap
  | 1 => m_Red_gap
  | 2 => m_Stroke_gap
  | 3 => m_Scratch_gap
  | 4 => m_Child_gap
  | 5 => m_Soot_gap
  | _ => m_Forged_gap
def sel_part (c : Nat) : MI := match c with
  | 0 => m_Stroke_part
  | 1 => m_Stroke_part
  | 2 => m_Stroke_part
  | 3 => m_Stroke_part
  | 4 => m_Stroke_part
  | 5 => m_Stroke_part
  | _ => m_Stroke_part
def sel_setPart (c : Nat) : MI := match c with
  | 0 => m_Stroke_setPart
  | 1 => m_Stroke_setPart
  | 2 => m_Stroke_setPart
  | 3 => m_Stroke_setPart
  | 4 => m_Stroke_setPart
  | 5 => m_Stroke_setPart
  | _ => m_Stroke_setPart
def sel_isOf (c : Nat) : MI := match c with
  | 0 => m_Stroke_isOf
  | 1 => m_Red_isOf
  | 2 => m_Black_isOf
  | 3 => m_Scratch_isOf
  | 4 => m_Child_isOf
  | 5 => m_Soot_isOf
  | _ => m_Forged_isOf
def sel_tells (c : Nat) : MI := match c with
  | 0 => m_Stroke_tells
  | 1 => m_Stroke_tells
  | 2 => m_Stroke_tells
  | 3 => m_Stroke_tells
  | 4 => m_Stroke_tells
  | 5 => m_Soot_tells
  | _ => m_Forged_tells
theorem l_Stroke_3 : Cond.methodLink "HandOverHorse$Stroke" 3 Lib.objectInit ∈ xw ∧ Cond.instanceMethod Lib.objectInit ∈ xw ∧ Cond.code Lib.objectInit ⟨#[0xb1]⟩ 1 none ∈ xw := ⟨xw_at 116 (by decide +kernel), xw_at 102 (by decide +kernel), xw_at 103 (by decide +kernel)⟩
theorem l_Stroke_33 : xLs "HandOverHorse$Stroke" 33 m_Stroke_begin 2 := ⟨xLk_of 1128 77 1120 (by decide +kernel), xw_at 1119 (by decide +kernel)⟩
theorem l_Stroke_37_0 : xLu "HandOverHorse$Stroke" 37 (xcn 0) ⟨"HandOverHorse$Stroke", "draws", "([II)I"⟩ m_Stroke_draws m_Stroke_draws 2 := xLu_of 1157 1113 1111 1127 1112 1111 77 1127 (by decide +kernel)
theorem l_Stroke_37_1 : xLu "HandOverHorse$Stroke" 37 (xcn 1) ⟨"HandOverHorse$Stroke", "draws", "([II)I"⟩ m_Stroke_draws m_Stroke_draws 2 := xLu_of 1157 1113 1111 1127 1124 1111 77 1127 (by decide +kernel)
theorem l_Stroke_37_2 : xLu "HandOverHorse$Stroke" 37 (xcn 2) ⟨"HandOverHorse$Stroke", "draws", "([II)I"⟩ m_Stroke_draws m_Black_draws 2 := xLu_of 1157 1113 1111 1127 1114 1115 83 1116 (by decide +kernel)
theorem l_Stroke_37_3 : xLu "HandOverHorse$Stroke" 37 (xcn 3) ⟨"HandOverHorse$Stroke", "draws", "([II)I"⟩ m_Stroke_draws m_Stroke_draws 2 := xLu_of 1157 1113 1111 1127 1125 1111 77 1127 (by decide +kernel)
theorem l_Stroke_37_4 : xLu "HandOverHorse$Stroke" 37 (xcn 4) ⟨"HandOverHorse$Stroke", "draws", "([II)I"⟩ m_Stroke_draws m_Stroke_draws 2 := xLu_of 1157 1113 1111 1127 1122 1111 77 1127 (by decide +kernel)
theorem l_Stroke_37_5 : xLu "HandOverHorse$Stroke" 37 (xcn 5) ⟨"HandOverHorse$Stroke", "draws", "([II)I"⟩ m_Stroke_draws m_Black_draws 2 := xLu_of 1157 1113 1111 1127 1126 1115 83 1116 (by decide +kernel)
theorem l_Stroke_37_6 : xLu "HandOverHorse$Stroke" 37 (xcn 6) ⟨"HandOverHorse$Stroke", "draws", "([II)I"⟩ m_Stroke_draws m_Stroke_draws 2 := xLu_of 1157 1113 1111 1127 1123 1111 77 1127 (by decide +kernel)
theorem l_Stroke_37 {c : Nat} (h : c < 7) : xLu "HandOverHorse$Stroke" 37 (xcn c) ⟨"HandOverHorse$Stroke", "draws", "([II)I"⟩ m_Stroke_draws (sel_draws c) 2 := by
  rcases (show c = 0 ∨ c = 1 ∨ c = 2 ∨ c = 3 ∨ c = 4 ∨ c = 5 ∨ c = 6 by omega) with rfl | rfl | rfl | rfl | rfl | rfl | rfl
  · exact l_Stroke_37_0
  · exact l_Stroke_37_1
  · exact l_Stroke_37_2
  · exact l_Stroke_37_3
  · exact l_Stroke_37_4
  · exact l_Stroke_37_5
  · exact l_Stroke_37_6
theorem l_Stroke_41_0 : xLu "HandOverHorse$Stroke" 41 (xcn 0) ⟨"HandOverHorse$Stroke", "dries", "([II)I"⟩ m_Stroke_dries m_Stroke_dries 2 := xLu_of 1199 1132 1130 1156 1131 1130 77 1156 (by decide +kernel)
theorem l_Stroke_41_1 : xLu "HandOverHorse$Stroke" 41 (xcn 1) ⟨"HandOverHorse$Stroke", "dries", "([II)I"⟩ m_Stroke_dries m_Red_dries 2 := xLu_of 1199 1132 1130 1156 1153 1140 82 1141 (by decide +kernel)
theorem l_Stroke_41_2 : xLu "HandOverHorse$Stroke" 41 (xcn 2) ⟨"HandOverHorse$Stroke", "dries", "([II)I"⟩ m_Stroke_dries m_Stroke_dries 2 := xLu_of 1199 1132 1130 1156 1133 1130 77 1156 (by decide +kernel)
theorem l_Stroke_41_3 : xLu "HandOverHorse$Stroke" 41 (xcn 3) ⟨"HandOverHorse$Stroke", "dries", "([II)I"⟩ m_Stroke_dries m_Stroke_dries 2 := xLu_of 1199 1132 1130 1156 1154 1130 77 1156 (by decide +kernel)
theorem l_Stroke_41_4 : xLu "HandOverHorse$Stroke" 41 (xcn 4) ⟨"HandOverHorse$Stroke", "dries", "([II)I"⟩ m_Stroke_dries m_Child_dries 2 := xLu_of 1199 1132 1130 1156 1134 1135 85 1136 (by decide +kernel)
theorem l_Stroke_41_5 : xLu "HandOverHorse$Stroke" 41 (xcn 5) ⟨"HandOverHorse$Stroke", "dries", "([II)I"⟩ m_Stroke_dries m_Stroke_dries 2 := xLu_of 1199 1132 1130 1156 1155 1130 77 1156 (by decide +kernel)
theorem l_Stroke_41_6 : xLu "HandOverHorse$Stroke" 41 (xcn 6) ⟨"HandOverHorse$Stroke", "dries", "([II)I"⟩ m_Stroke_dries m_Stroke_dries 2 := xLu_of 1199 1132 1130 1156 1152 1130 77 1156 (by decide +kernel)
theorem l_Stroke_41 {c : Nat} (h : c < 7) : xLu "HandOverHorse$Stroke" 41 (xcn c) ⟨"HandOverHorse$Stroke", "dries", "([II)I"⟩ m_Stroke_dries (sel_dries c) 2 := by
  rcases (show c = 0 ∨ c = 1 ∨ c = 2 ∨ c = 3 ∨ c = 4 ∨ c = 5 ∨ c = 6 by omega) with rfl | rfl | rfl | rfl | rfl | rfl | rfl
  · exact l_Stroke_41_0
  · exact l_Stroke_41_1
  · exact l_Stroke_41_2
  · exact l_Stroke_41_3
  · exact l_Stroke_41_4
  · exact l_Stroke_41_5
  · exact l_Stroke_41_6
theorem l_Stroke_44_0 : xLu "HandOverHorse$Stroke" 44 (xcn 0) ⟨"HandOverHorse$Stroke", "peels", "([II)I"⟩ m_Stroke_peels m_Stroke_peels 2 := xLu_of 1200 1783 1150 1151 1791 1150 77 1151 (by decide +kernel)
theorem l_Stroke_44_1 : xLu "HandOverHorse$Stroke" 44 (xcn 1) ⟨"HandOverHorse$Stroke", "peels", "([II)I"⟩ m_Stroke_peels m_Stroke_peels 2 := xLu_of 1200 1783 1150 1151 1788 1150 77 1151 (by decide +kernel)
theorem l_Stroke_44_2 : xLu "HandOverHorse$Stroke" 44 (xcn 2) ⟨"HandOverHorse$Stroke", "peels", "([II)I"⟩ m_Stroke_peels m_Stroke_peels 2 := xLu_of 1200 1783 1150 1151 1784 1150 77 1151 (by decide +kernel)
theorem l_Stroke_44_3 : xLu "HandOverHorse$Stroke" 44 (xcn 3) ⟨"HandOverHorse$Stroke", "peels", "([II)I"⟩ m_Stroke_peels m_Scratch_peels 2 := xLu_of 1200 1783 1150 1151 1789 1164 84 1165 (by decide +kernel)
theorem l_Stroke_44_4 : xLu "HandOverHorse$Stroke" 44 (xcn 4) ⟨"HandOverHorse$Stroke", "peels", "([II)I"⟩ m_Stroke_peels m_Stroke_peels 2 := xLu_of 1200 1783 1150 1151 1785 1150 77 1151 (by decide +kernel)
theorem l_Stroke_44_5 : xLu "HandOverHorse$Stroke" 44 (xcn 5) ⟨"HandOverHorse$Stroke", "peels", "([II)I"⟩ m_Stroke_peels m_Stroke_peels 2 := xLu_of 1200 1783 1150 1151 1790 1150 77 1151 (by decide +kernel)
theorem l_Stroke_44_6 : xLu "HandOverHorse$Stroke" 44 (xcn 6) ⟨"HandOverHorse$Stroke", "peels", "([II)I"⟩ m_Stroke_peels m_Forged_peels 2 := xLu_of 1200 1783 1150 1151 1786 1159 87 1160 (by decide +kernel)
theorem l_Stroke_44 {c : Nat} (h : c < 7) : xLu "HandOverHorse$Stroke" 44 (xcn c) ⟨"HandOverHorse$Stroke", "peels", "([II)I"⟩ m_Stroke_peels (sel_peels c) 2 := by
  rcases (show c = 0 ∨ c = 1 ∨ c = 2 ∨ c = 3 ∨ c = 4 ∨ c = 5 ∨ c = 6 by omega) with rfl | rfl | rfl | rfl | rfl | rfl | rfl
  · exact l_Stroke_44_0
  · exact l_Stroke_44_1
  · exact l_Stroke_44_2
  · exact l_Stroke_44_3
  · exact l_Stroke_44_4
  · exact l_Stroke_44_5
  · exact l_Stroke_44_6
theorem l_Red_1 : xLi "HandOverHorse$Red" 1 m_Stroke_init 0 := ⟨xLk_of 379 77 115 (by decide +kernel), xw_at 114 (by decide +kernel), rfl⟩
theorem l_Red_7 : xLsu "HandOverHorse$Red" 7 m_Stroke_isOf 1 := xLsu_of 664 653 387 651 77 678 (by decide +kernel)
theorem l_Red_11 : xLsu "HandOverHorse$Red" 11 m_Stroke_early 0 := xLsu_of 515 507 387 505 77 534 (by decide +kernel)
theorem l_Red_21 : xLsu "HandOverHorse$Red" 21 m_Stroke_gap 0 := xLsu_of 1011 997 387 995 77 1019 (by decide +kernel)
theorem l_Red_24 : xLsS "HandOverHorse$Red" 24 ⟨"HandOverHorse$Red", "begin", "([II)V"⟩ m_Stroke_begin 2 := xLsS_of 1142 1143 1119 77 1120 (by decide +kernel)
theorem l_Red_28 : xLsu "HandOverHorse$Red" 28 m_Stroke_dries 2 := xLsu_of 1144 1132 387 1130 77 1156 (by decide +kernel)
theorem l_Red_32_1 : xLu "HandOverHorse$Red" 32 (xcn 1) ⟨"HandOverHorse$Red", "peels", "([II)I"⟩ m_Stroke_peels m_Stroke_peels 2 := xLu_of 1145 1146 1150 1151 1149 1150 77 1151 (by decide +kernel)
theorem l_Red_32_4 : xLu "HandOverHorse$Red" 32 (xcn 4) ⟨"HandOverHorse$Red", "peels", "([II)I"⟩ m_Stroke_peels m_Stroke_peels 2 := xLu_of 1145 1146 1150 1151 1148 1150 77 1151 (by decide +kernel)
theorem l_Red_32 {c : Nat} (h : c = 1 ∨ c = 4) : xLu "HandOverHorse$Red" 32 (xcn c) ⟨"HandOverHorse$Red", "peels", "([II)I"⟩ m_Stroke_peels m_Stroke_peels 2 := by
  rcases h with rfl | rfl
  · exact l_Red_32_1
  · exact l_Red_32_4
theorem l_Black_1 : xLi "HandOverHorse$Black" 1 m_Stroke_init 0 := ⟨xLk_of 393 77 115 (by decide +kernel), xw_at 114 (by decide +kernel), rfl⟩
theorem l_Black_7 : xLsu "HandOverHorse$Black" 7 m_Stroke_isOf 1 := xLsu_of 657 653 401 651 77 678 (by decide +kernel)
theorem l_Black_11 : xLsu "HandOverHorse$Black" 11 m_Stroke_late 0 := xLsu_of 576 572 401 570 77 592 (by decide +kernel)
theorem l_Black_21 : xLsS "HandOverHorse$Black" 21 ⟨"HandOverHorse$Black", "begin", "([II)V"⟩ m_Stroke_begin 2 := xLsS_of 1117 1118 1119 77 1120 (by decide +kernel)
theorem l_Black_25 : xLsu "HandOverHorse$Black" 25 m_Stroke_draws 2 := xLsu_of 1121 1113 401 1111 77 1127 (by decide +kernel)
theorem l_Scratch_1 : xLi "HandOverHorse$Scratch" 1 m_Stroke_init 0 := ⟨xLk_of 407 77 115 (by decide +kernel), xw_at 114 (by decide +kernel), rfl⟩
theorem l_Scratch_7 : xLsu "HandOverHorse$Scratch" 7 m_Stroke_isOf 1 := xLsu_of 671 653 415 651 77 678 (by decide +kernel)
theorem l_Scratch_11 : xLsu "HandOverHorse$Scratch" 11 m_Stroke_early 0 := xLsu_of 522 507 415 505 77 534 (by decide +kernel)
theorem l_Scratch_21 : xLsS "HandOverHorse$Scratch" 21 ⟨"HandOverHorse$Scratch", "begin", "([II)V"⟩ m_Stroke_begin 2 := xLsS_of 1166 1167 1119 77 1120 (by decide +kernel)
theorem l_Scratch_25 : xLsu "HandOverHorse$Scratch" 25 m_Stroke_peels 2 := xLsu_of 1168 1783 415 1150 77 1151 (by decide +kernel)
theorem l_Child_1 : xLi "HandOverHorse$Child" 1 m_Red_init 0 := ⟨xLk_of 421 82 378 (by decide +kernel), xw_at 377 (by decide +kernel), rfl⟩
theorem l_Child_7 : xLsu "HandOverHorse$Child" 7 m_Red_isOf 1 := xLsu_of 661 1778 429 662 82 663 (by decide +kernel)
theorem l_Child_11 : xLsu "HandOverHorse$Child" 11 m_Red_early 0 := xLsu_of 512 1775 429 513 82 514 (by decide +kernel)
theorem l_Child_15 : xLsx "HandOverHorse$Child" 15 ⟨"HandOverHorse$Red", "late", "()I"⟩ m_Stroke_late 0 := xLsx_of 580 581 429 387 570 77 592 (by decide +kernel)
theorem l_Child_24 : xLsS "HandOverHorse$Child" 24 ⟨"HandOverHorse$Child", "begin", "([II)V"⟩ m_Stroke_begin 2 := xLsS_of 1137 1138 1119 77 1120 (by decide +kernel)
theorem l_Child_28 : xLsu "HandOverHorse$Child" 28 m_Red_dries 2 := xLsu_of 1139 1782 429 1140 82 1141 (by decide +kernel)
theorem l_Soot_1 : xLi "HandOverHorse$Soot" 1 m_Black_init 0 := ⟨xLk_of 435 83 392 (by decide +kernel), xw_at 391 (by decide +kernel), rfl⟩
theorem l_Soot_7 : xLsu "HandOverHorse$Soot" 7 m_Black_isOf 1 := xLsu_of 677 1780 443 655 83 656 (by decide +kernel)
theorem l_Soot_11 : xLsx "HandOverHorse$Soot" 11 ⟨"HandOverHorse$Black", "early", "()I"⟩ m_Stroke_early 0 := xLsx_of 531 532 443 401 505 77 534 (by decide +kernel)
theorem l_Soot_21 : xLsu "HandOverHorse$Soot" 21 m_Black_late 0 := xLsu_of 591 1777 443 574 83 575 (by decide +kernel)
theorem l_Soot_24 : xLsx "HandOverHorse$Soot" 24 ⟨"HandOverHorse$Black", "gap", "()I"⟩ m_Stroke_gap 0 := xLsx_of 1016 1017 443 401 995 77 1019 (by decide +kernel)
theorem l_Soot_27 : xLsS "HandOverHorse$Soot" 27 ⟨"HandOverHorse$Soot", "begin", "([II)V"⟩ m_Stroke_begin 2 := xLsS_of 1190 1191 1119 77 1120 (by decide +kernel)
theorem l_Soot_31 : xLsx "HandOverHorse$Soot" 31 ⟨"HandOverHorse$Black", "tells", "([II)I"⟩ m_Stroke_tells 2 := xLsx_of 1192 1193 443 401 1170 77 1198 (by decide +kernel)
theorem l_Soot_35_5 : xLu "HandOverHorse$Soot" 35 (xcn 5) ⟨"HandOverHorse$Soot", "draws", "([II)I"⟩ m_Black_draws m_Black_draws 2 := xLu_of 1194 1195 1115 1116 1197 1115 83 1116 (by decide +kernel)
theorem l_Soot_35 {c : Nat} (h : c = 5) : xLu "HandOverHorse$Soot" 35 (xcn c) ⟨"HandOverHorse$Soot", "draws", "([II)I"⟩ m_Black_draws m_Black_draws 2 := by
  subst h; exact l_Soot_35_5
theorem l_Forged_3 : xLi "HandOverHorse$Forged" 3 m_Scratch_init 0 := ⟨xLk_of 449 84 406 (by decide +kernel), xw_at 405 (by decide +kernel), rfl⟩
theorem l_Forged_9 : xLsu "HandOverHorse$Forged" 9 m_Scratch_isOf 1 := xLsu_of 668 1779 457 669 84 670 (by decide +kernel)
theorem l_Forged_13 : xLsu "HandOverHorse$Forged" 13 m_Scratch_early 0 := xLsu_of 519 1776 457 520 84 521 (by decide +kernel)
theorem l_Forged_17 : xLs "HandOverHorse$Forged" 17 m_Math_max 2 := ⟨xLk_of 523 88 525 (by decide +kernel), xw_at 524 (by decide +kernel)⟩
theorem l_Forged_23 : xLsu "HandOverHorse$Forged" 23 m_Scratch_gap 0 := xLsu_of 1005 1781 457 1006 84 1007 (by decide +kernel)
theorem l_Forged_32 : xLsS "HandOverHorse$Forged" 32 ⟨"HandOverHorse$Forged", "begin", "([II)V"⟩ m_Stroke_begin 2 := xLsS_of 1161 1162 1119 77 1120 (by decide +kernel)
theorem l_Forged_36 : xLsu "HandOverHorse$Forged" 36 m_Scratch_peels 2 := xLsu_of 1163 1787 457 1164 84 1165 (by decide +kernel)
theorem l_Forged_43_6 : xLu "HandOverHorse$Forged" 43 (xcn 6) ⟨"HandOverHorse$Forged", "dries", "([II)I"⟩ m_Stroke_dries m_Stroke_dries 2 := xLu_of 1178 1179 1130 1156 1181 1130 77 1156 (by decide +kernel)
theorem l_Forged_43 {c : Nat} (h : c = 6) : xLu "HandOverHorse$Forged" 43 (xcn c) ⟨"HandOverHorse$Forged", "dries", "([II)I"⟩ m_Stroke_dries m_Stroke_dries 2 := by
  subst h; exact l_Forged_43_6
theorem l_Forged_46 : xLsx "HandOverHorse$Forged" 46 ⟨"HandOverHorse$Scratch", "tells", "([II)I"⟩ m_Stroke_tells 2 := xLsx_of 1182 1183 457 415 1170 77 1198 (by decide +kernel)
theorem l_Text_3 : Cond.methodLink "HandOverHorse$Text" 3 Lib.objectInit ∈ xw ∧ Cond.instanceMethod Lib.objectInit ∈ xw ∧ Cond.code Lib.objectInit ⟨#[0xb1]⟩ 1 none ∈ xw := ⟨xw_at 166 (by decide +kernel), xw_at 102 (by decide +kernel), xw_at 103 (by decide +kernel)⟩
theorem l_Text_40 : xLv "HandOverHorse$Text" 40 m_Text_readLevel 2 := ⟨xLk_of 739 78 742 (by decide +kernel), xw_at 741 (by decide +kernel), xw_at 2 (by decide +kernel)⟩
theorem l_Text_44 : xLv "HandOverHorse$Text" 44 m_Text_readLeaf 1 := ⟨xLk_of 743 78 746 (by decide +kernel), xw_at 745 (by decide +kernel), xw_at 3 (by decide +kernel)⟩
theorem l_Text_48 : xLv "HandOverHorse$Text" 48 m_Text_here 0 := ⟨xLk_of 747 78 750 (by decide +kernel), xw_at 749 (by decide +kernel), xw_at 4 (by decide +kernel)⟩
theorem l_Text_52 : xLs "HandOverHorse$Text" 52 m_Text_levelOf 1 := ⟨xLk_of 852 78 854 (by decide +kernel), xw_at 853 (by decide +kernel)⟩
theorem l_Text_56 : xLv "HandOverHorse$Text" 56 m_Text_addStep 2 := ⟨xLk_of 758 78 761 (by decide +kernel), xw_at 760 (by decide +kernel), xw_at 6 (by decide +kernel)⟩
theorem l_Text_60 : xLs "HandOverHorse$Text" 60 m_Text_isDigit 1 := ⟨xLk_of 751 78 753 (by decide +kernel), xw_at 752 (by decide +kernel)⟩
theorem l_Text_63 : xLv "HandOverHorse$Text" 63 m_Text_readNumber 0 := ⟨xLk_of 754 78 757 (by decide +kernel), xw_at 756 (by decide +kernel), xw_at 5 (by decide +kernel)⟩
theorem l_Text_66 : xLv "HandOverHorse$Text" 66 m_Text_readNot 1 := ⟨xLk_of 762 78 765 (by decide +kernel), xw_at 764 (by decide +kernel), xw_at 7 (by decide +kernel)⟩
theorem l_Text_69 : xLv "HandOverHorse$Text" 69 m_Text_readBracket 1 := ⟨xLk_of 766 78 769 (by decide +kernel), xw_at 768 (by decide +kernel), xw_at 8 (by decide +kernel)⟩
theorem l_Text_77 : xLs "HandOverHorse$Text" 77 m_Text_named 5 := ⟨xLk_of 552 78 554 (by decide +kernel), xw_at 553 (by decide +kernel)⟩
theorem l_Text_81 : xLs "HandOverHorse$Text" 81 m_Text_joined 3 := ⟨xLk_of 555 78 557 (by decide +kernel), xw_at 556 (by decide +kernel)⟩
theorem l_Wall_3 : Cond.methodLink "HandOverHorse$Wall" 3 Lib.objectInit ∈ xw ∧ Cond.instanceMethod Lib.objectInit ∈ xw ∧ Cond.code Lib.objectInit ⟨#[0xb1]⟩ 1 none ∈ xw := ⟨xw_at 109 (by decide +kernel), xw_at 102 (by decide +kernel), xw_at 103 (by decide +kernel)⟩
theorem la_Wall_9 : Cond.classLink "HandOverHorse$Wall" 9 "HandOverHorse$Stroke" ∈ xw := xw_at 110 (by decide +kernel)
theorem l_Wall_9 : Cond.classLink "HandOverHorse$Wall" 9 (xcn 0) ∈ xw ∧ Cond.instantiable (xcn 0) (xN 0) ∈ xw ∧ Cond.initialized (xcn 0) ∈ xw := ⟨xw_at 110 (by decide +kernel), xw_at 112 (by decide +kernel), xw_at 77 (by decide +kernel)⟩
theorem l_Wall_17 : xLi "HandOverHorse$Wall" 17 m_Stroke_init 0 := ⟨xLk_of 113 77 115 (by decide +kernel), xw_at 114 (by decide +kernel), rfl⟩
theorem la_Wall_31 : Cond.classLink "HandOverHorse$Wall" 31 "HandOverHorse$Text" ∈ xw := xw_at 160 (by decide +kernel)
theorem l_Wall_31 : Cond.classLink "HandOverHorse$Wall" 31 (xcn 7) ∈ xw ∧ Cond.instantiable (xcn 7) (xN 7) ∈ xw ∧ Cond.initialized (xcn 7) ∈ xw := ⟨xw_at 160 (by decide +kernel), xw_at 162 (by decide +kernel), xw_at 78 (by decide +kernel)⟩
theorem l_Wall_37 : xLi "HandOverHorse$Wall" 37 m_Text_init 0 := ⟨xLk_of 163 78 165 (by decide +kernel), xw_at 164 (by decide +kernel), rfl⟩
theorem l_Wall_52_0 : xLu "HandOverHorse$Wall" 52 (xcn 0) ⟨"HandOverHorse$Stroke", "kind", "()I"⟩ m_Stroke_kind m_Stroke_kind 0 := xLu_of 539 469 467 488 468 467 77 488 (by decide +kernel)
theorem l_Wall_52_1 : xLu "HandOverHorse$Wall" 52 (xcn 1) ⟨"HandOverHorse$Stroke", "kind", "()I"⟩ m_Stroke_kind m_Red_kind 0 := xLu_of 539 469 467 488 479 480 82 481 (by decide +kernel)
theorem l_Wall_52_2 : xLu "HandOverHorse$Wall" 52 (xcn 2) ⟨"HandOverHorse$Stroke", "kind", "()I"⟩ m_Stroke_kind m_Black_kind 0 := xLu_of 539 469 467 488 470 471 83 472 (by decide +kernel)
theorem l_Wall_52_3 : xLu "HandOverHorse$Wall" 52 (xcn 3) ⟨"HandOverHorse$Stroke", "kind", "()I"⟩ m_Stroke_kind m_Scratch_kind 0 := xLu_of 539 469 467 488 482 483 84 484 (by decide +kernel)
theorem l_Wall_52_4 : xLu "HandOverHorse$Wall" 52 (xcn 4) ⟨"HandOverHorse$Stroke", "kind", "()I"⟩ m_Stroke_kind m_Child_kind 0 := xLu_of 539 469 467 488 473 474 85 475 (by decide +kernel)
theorem l_Wall_52_5 : xLu "HandOverHorse$Wall" 52 (xcn 5) ⟨"HandOverHorse$Stroke", "kind", "()I"⟩ m_Stroke_kind m_Soot_kind 0 := xLu_of 539 469 467 488 485 486 86 487 (by decide +kernel)
theorem l_Wall_52_6 : xLu "HandOverHorse$Wall" 52 (xcn 6) ⟨"HandOverHorse$Stroke", "kind", "()I"⟩ m_Stroke_kind m_Forged_kind 0 := xLu_of 539 469 467 488 476 477 87 478 (by decide +kernel)
theorem l_Wall_52 {c : Nat} (h : c < 7) : xLu "HandOverHorse$Wall" 52 (xcn c) ⟨"HandOverHorse$Stroke", "kind", "()I"⟩ m_Stroke_kind (sel_kind c) 0 := by
  rcases (show c = 0 ∨ c = 1 ∨ c = 2 ∨ c = 3 ∨ c = 4 ∨ c = 5 ∨ c = 6 by omega) with rfl | rfl | rfl | rfl | rfl | rfl | rfl
  · exact l_Wall_52_0
  · exact l_Wall_52_1
  · exact l_Wall_52_2
  · exact l_Wall_52_3
  · exact l_Wall_52_4
  · exact l_Wall_52_5
  · exact l_Wall_52_6
theorem l_Wall_56 : xLv "HandOverHorse$Wall" 56 m_Wall_makeOfKind 2 := ⟨xLk_of 1250 76 634 (by decide +kernel), xw_at 632 (by decide +kernel), xw_at 633 (by decide +kernel)⟩
theorem l_Wall_60_0 : xLu "HandOverHorse$Wall" 60 (xcn 0) ⟨"HandOverHorse$Stroke", "copyFrom", "(LHandOverHorse$Stroke;)V"⟩ m_Stroke_copyFrom m_Stroke_copyFrom 1 := xLu_of 635 638 636 645 637 636 77 645 (by decide +kernel)
theorem l_Wall_60_1 : xLu "HandOverHorse$Wall" 60 (xcn 1) ⟨"HandOverHorse$Stroke", "copyFrom", "(LHandOverHorse$Stroke;)V"⟩ m_Stroke_copyFrom m_Stroke_copyFrom 1 := xLu_of 635 638 636 645 642 636 77 645 (by decide +kernel)
theorem l_Wall_60_2 : xLu "HandOverHorse$Wall" 60 (xcn 2) ⟨"HandOverHorse$Stroke", "copyFrom", "(LHandOverHorse$Stroke;)V"⟩ m_Stroke_copyFrom m_Stroke_copyFrom 1 := xLu_of 635 638 636 645 639 636 77 645 (by decide +kernel)
theorem l_Wall_60_3 : xLu "HandOverHorse$Wall" 60 (xcn 3) ⟨"HandOverHorse$Stroke", "copyFrom", "(LHandOverHorse$Stroke;)V"⟩ m_Stroke_copyFrom m_Stroke_copyFrom 1 := xLu_of 635 638 636 645 643 636 77 645 (by decide +kernel)
theorem l_Wall_60_4 : xLu "HandOverHorse$Wall" 60 (xcn 4) ⟨"HandOverHorse$Stroke", "copyFrom", "(LHandOverHorse$Stroke;)V"⟩ m_Stroke_copyFrom m_Stroke_copyFrom 1 := xLu_of 635 638 636 645 640 636 77 645 (by decide +kernel)
theorem l_Wall_60_5 : xLu "HandOverHorse$Wall" 60 (xcn 5) ⟨"HandOverHorse$Stroke", "copyFrom", "(LHandOverHorse$Stroke;)V"⟩ m_Stroke_copyFrom m_Stroke_copyFrom 1 := xLu_of 635 638 636 645 644 636 77 645 (by decide +kernel)
theorem l_Wall_60_6 : xLu "HandOverHorse$Wall" 60 (xcn 6) ⟨"HandOverHorse$Stroke", "copyFrom", "(LHandOverHorse$Stroke;)V"⟩ m_Stroke_copyFrom m_Stroke_copyFrom 1 := xLu_of 635 638 636 645 641 636 77 645 (by decide +kernel)
theorem l_Wall_60 {c : Nat} (h : c < 7) : xLu "HandOverHorse$Wall" 60 (xcn c) ⟨"HandOverHorse$Stroke", "copyFrom", "(LHandOverHorse$Stroke;)V"⟩ m_Stroke_copyFrom (sel_copyFrom c) 1 := by
  rcases (show c = 0 ∨ c = 1 ∨ c = 2 ∨ c = 3 ∨ c = 4 ∨ c = 5 ∨ c = 6 by omega) with rfl | rfl | rfl | rfl | rfl | rfl | rfl
  · exact l_Wall_60_0
  · exact l_Wall_60_1
  · exact l_Wall_60_2
  · exact l_Wall_60_3
  · exact l_Wall_60_4
  · exact l_Wall_60_5
  · exact l_Wall_60_6
theorem l_Wall_76 : xLv "HandOverHorse$Wall" 76 m_Text_copyFrom 1 := ⟨xLk_of 855 78 858 (by decide +kernel), xw_at 856 (by decide +kernel), xw_at 857 (by decide +kernel)⟩
theorem l_Wall_82 : xLs "HandOverHorse$Wall" 82 m_Math_min 2 := ⟨xLk_of 561 88 563 (by decide +kernel), xw_at 562 (by decide +kernel)⟩
theorem l_Wall_88 : xLs "HandOverHorse$Wall" 88 m_Math_max 2 := ⟨xLk_of 564 88 525 (by decide +kernel), xw_at 524 (by decide +kernel)⟩
theorem l_Wall_91 : xLs "HandOverHorse$Wall" 91 m_Math_abs 1 := ⟨xLk_of 988 88 990 (by decide +kernel), xw_at 989 (by decide +kernel)⟩
theorem l_Wall_95 : xLv "HandOverHorse$Wall" 95 m_Wall_hasStroke 1 := ⟨xLk_of 691 76 465 (by decide +kernel), xw_at 463 (by decide +kernel), xw_at 464 (by decide +kernel)⟩
theorem l_Wall_99 : Cond.classLink "HandOverHorse$Wall" 99 (xcn 1) ∈ xw ∧ Cond.instantiable (xcn 1) (xN 1) ∈ xw ∧ Cond.initialized (xcn 1) ∈ xw := ⟨xw_at 374 (by decide +kernel), xw_at 375 (by decide +kernel), xw_at 82 (by decide +kernel)⟩
theorem l_Wall_101 : xLi "HandOverHorse$Wall" 101 m_Red_init 0 := ⟨xLk_of 376 82 378 (by decide +kernel), xw_at 377 (by decide +kernel), rfl⟩
theorem l_Wall_102 : Cond.classLink "HandOverHorse$Wall" 102 (xcn 2) ∈ xw ∧ Cond.instantiable (xcn 2) (xN 2) ∈ xw ∧ Cond.initialized (xcn 2) ∈ xw := ⟨xw_at 388 (by decide +kernel), xw_at 389 (by decide +kernel), xw_at 83 (by decide +kernel)⟩
theorem l_Wall_104 : xLi "HandOverHorse$Wall" 104 m_Black_init 0 := ⟨xLk_of 390 83 392 (by decide +kernel), xw_at 391 (by decide +kernel), rfl⟩
theorem l_Wall_105 : Cond.classLink "HandOverHorse$Wall" 105 (xcn 3) ∈ xw ∧ Cond.instantiable (xcn 3) (xN 3) ∈ xw ∧ Cond.initialized (xcn 3) ∈ xw := ⟨xw_at 402 (by decide +kernel), xw_at 403 (by decide +kernel), xw_at 84 (by decide +kernel)⟩
theorem l_Wall_107 : xLi "HandOverHorse$Wall" 107 m_Scratch_init 0 := ⟨xLk_of 404 84 406 (by decide +kernel), xw_at 405 (by decide +kernel), rfl⟩
theorem l_Wall_108 : Cond.classLink "HandOverHorse$Wall" 108 (xcn 4) ∈ xw ∧ Cond.instantiable (xcn 4) (xN 4) ∈ xw ∧ Cond.initialized (xcn 4) ∈ xw := ⟨xw_at 416 (by decide +kernel), xw_at 417 (by decide +kernel), xw_at 85 (by decide +kernel)⟩
theorem l_Wall_110 : xLi "HandOverHorse$Wall" 110 m_Child_init 0 := ⟨xLk_of 418 85 420 (by decide +kernel), xw_at 419 (by decide +kernel), rfl⟩
theorem l_Wall_111 : Cond.classLink "HandOverHorse$Wall" 111 (xcn 5) ∈ xw ∧ Cond.instantiable (xcn 5) (xN 5) ∈ xw ∧ Cond.initialized (xcn 5) ∈ xw := ⟨xw_at 430 (by decide +kernel), xw_at 431 (by decide +kernel), xw_at 86 (by decide +kernel)⟩
theorem l_Wall_113 : xLi "HandOverHorse$Wall" 113 m_Soot_init 0 := ⟨xLk_of 432 86 434 (by decide +kernel), xw_at 433 (by decide +kernel), rfl⟩
theorem l_Wall_114 : Cond.classLink "HandOverHorse$Wall" 114 (xcn 6) ∈ xw ∧ Cond.instantiable (xcn 6) (xN 6) ∈ xw ∧ Cond.initialized (xcn 6) ∈ xw := ⟨xw_at 444 (by decide +kernel), xw_at 445 (by decide +kernel), xw_at 87 (by decide +kernel)⟩
theorem l_Wall_116 : xLi "HandOverHorse$Wall" 116 m_Forged_init 0 := ⟨xLk_of 446 87 448 (by decide +kernel), xw_at 447 (by decide +kernel), rfl⟩
theorem l_Wall_117 : xLs "HandOverHorse$Wall" 117 m_Wall_blankOfKind 1 := ⟨xLk_of 371 76 373 (by decide +kernel), xw_at 372 (by decide +kernel)⟩
theorem l_Wall_133_0 : xLu "HandOverHorse$Wall" 133 (xcn 0) ⟨"HandOverHorse$Stroke", "early", "()I"⟩ m_Stroke_early m_Stroke_early 0 := xLu_of 504 507 505 534 506 505 77 534 (by decide +kernel)
theorem l_Wall_133_1 : xLu "HandOverHorse$Wall" 133 (xcn 1) ⟨"HandOverHorse$Stroke", "early", "()I"⟩ m_Stroke_early m_Red_early 0 := xLu_of 504 507 505 534 526 513 82 514 (by decide +kernel)
theorem l_Wall_133_2 : xLu "HandOverHorse$Wall" 133 (xcn 2) ⟨"HandOverHorse$Stroke", "early", "()I"⟩ m_Stroke_early m_Stroke_early 0 := xLu_of 504 507 505 534 508 505 77 534 (by decide +kernel)
theorem l_Wall_133_3 : xLu "HandOverHorse$Wall" 133 (xcn 3) ⟨"HandOverHorse$Stroke", "early", "()I"⟩ m_Stroke_early m_Scratch_early 0 := xLu_of 504 507 505 534 527 520 84 521 (by decide +kernel)
theorem l_Wall_133_4 : xLu "HandOverHorse$Wall" 133 (xcn 4) ⟨"HandOverHorse$Stroke", "early", "()I"⟩ m_Stroke_early m_Child_early 0 := xLu_of 504 507 505 534 509 510 85 511 (by decide +kernel)
theorem l_Wall_133_5 : xLu "HandOverHorse$Wall" 133 (xcn 5) ⟨"HandOverHorse$Stroke", "early", "()I"⟩ m_Stroke_early m_Soot_early 0 := xLu_of 504 507 505 534 528 529 86 530 (by decide +kernel)
theorem l_Wall_133_6 : xLu "HandOverHorse$Wall" 133 (xcn 6) ⟨"HandOverHorse$Stroke", "early", "()I"⟩ m_Stroke_early m_Forged_early 0 := xLu_of 504 507 505 534 516 517 87 518 (by decide +kernel)
theorem l_Wall_133 {c : Nat} (h : c < 7) : xLu "HandOverHorse$Wall" 133 (xcn c) ⟨"HandOverHorse$Stroke", "early", "()I"⟩ m_Stroke_early (sel_early c) 0 := by
  rcases (show c = 0 ∨ c = 1 ∨ c = 2 ∨ c = 3 ∨ c = 4 ∨ c = 5 ∨ c = 6 by omega) with rfl | rfl | rfl | rfl | rfl | rfl | rfl
  · exact l_Wall_133_0
  · exact l_Wall_133_1
  · exact l_Wall_133_2
  · exact l_Wall_133_3
  · exact l_Wall_133_4
  · exact l_Wall_133_5
  · exact l_Wall_133_6
theorem l_Wall_136 : xLv "HandOverHorse$Wall" 136 m_Wall_datesOf 1 := ⟨xLk_of 535 76 538 (by decide +kernel), xw_at 537 (by decide +kernel), xw_at 1 (by decide +kernel)⟩
theorem l_Wall_139 : xLs "HandOverHorse$Wall" 139 m_Wall_held 3 := ⟨xLk_of 558 76 560 (by decide +kernel), xw_at 559 (by decide +kernel)⟩
theorem l_Wall_143_0 : xLu "HandOverHorse$Wall" 143 (xcn 0) ⟨"HandOverHorse$Stroke", "late", "()I"⟩ m_Stroke_late m_Stroke_late 0 := xLu_of 569 572 570 592 571 570 77 592 (by decide +kernel)
theorem l_Wall_143_1 : xLu "HandOverHorse$Wall" 143 (xcn 1) ⟨"HandOverHorse$Stroke", "late", "()I"⟩ m_Stroke_late m_Stroke_late 0 := xLu_of 569 572 570 592 586 570 77 592 (by decide +kernel)
theorem l_Wall_143_2 : xLu "HandOverHorse$Wall" 143 (xcn 2) ⟨"HandOverHorse$Stroke", "late", "()I"⟩ m_Stroke_late m_Black_late 0 := xLu_of 569 572 570 592 573 574 83 575 (by decide +kernel)
theorem l_Wall_143_3 : xLu "HandOverHorse$Wall" 143 (xcn 3) ⟨"HandOverHorse$Stroke", "late", "()I"⟩ m_Stroke_late m_Stroke_late 0 := xLu_of 569 572 570 592 587 570 77 592 (by decide +kernel)
theorem l_Wall_143_4 : xLu "HandOverHorse$Wall" 143 (xcn 4) ⟨"HandOverHorse$Stroke", "late", "()I"⟩ m_Stroke_late m_Child_late 0 := xLu_of 569 572 570 592 577 578 85 579 (by decide +kernel)
theorem l_Wall_143_5 : xLu "HandOverHorse$Wall" 143 (xcn 5) ⟨"HandOverHorse$Stroke", "late", "()I"⟩ m_Stroke_late m_Soot_late 0 := xLu_of 569 572 570 592 588 589 86 590 (by decide +kernel)
theorem l_Wall_143_6 : xLu "HandOverHorse$Wall" 143 (xcn 6) ⟨"HandOverHorse$Stroke", "late", "()I"⟩ m_Stroke_late m_Forged_late 0 := xLu_of 569 572 570 592 583 584 87 585 (by decide +kernel)
theorem l_Wall_143 {c : Nat} (h : c < 7) : xLu "HandOverHorse$Wall" 143 (xcn c) ⟨"HandOverHorse$Stroke", "late", "()I"⟩ m_Stroke_late (sel_late c) 0 := by
  rcases (show c = 0 ∨ c = 1 ∨ c = 2 ∨ c = 3 ∨ c = 4 ∨ c = 5 ∨ c = 6 by omega) with rfl | rfl | rfl | rfl | rfl | rfl | rfl
  · exact l_Wall_143_0
  · exact l_Wall_143_1
  · exact l_Wall_143_2
  · exact l_Wall_143_3
  · exact l_Wall_143_4
  · exact l_Wall_143_5
  · exact l_Wall_143_6
theorem l_Wall_149 : xLv "HandOverHorse$Wall" 149 m_Wall_givenBy 5 := ⟨xLk_of 540 76 543 (by decide +kernel), xw_at 541 (by decide +kernel), xw_at 542 (by decide +kernel)⟩
theorem l_Wall_153_0 : xLu "HandOverHorse$Wall" 153 (xcn 0) ⟨"HandOverHorse$Stroke", "stuff", "()I"⟩ m_Stroke_stuff m_Stroke_stuff 0 := xLu_of 987 596 594 609 595 594 77 609 (by decide +kernel)
theorem l_Wall_153_1 : xLu "HandOverHorse$Wall" 153 (xcn 1) ⟨"HandOverHorse$Stroke", "stuff", "()I"⟩ m_Stroke_stuff m_Red_stuff 0 := xLu_of 987 596 594 609 606 601 82 602 (by decide +kernel)
theorem l_Wall_153_2 : xLu "HandOverHorse$Wall" 153 (xcn 2) ⟨"HandOverHorse$Stroke", "stuff", "()I"⟩ m_Stroke_stuff m_Black_stuff 0 := xLu_of 987 596 594 609 597 598 83 599 (by decide +kernel)
theorem l_Wall_153_3 : xLu "HandOverHorse$Wall" 153 (xcn 3) ⟨"HandOverHorse$Stroke", "stuff", "()I"⟩ m_Stroke_stuff m_Scratch_stuff 0 := xLu_of 987 596 594 609 607 604 84 605 (by decide +kernel)
theorem l_Wall_153_4 : xLu "HandOverHorse$Wall" 153 (xcn 4) ⟨"HandOverHorse$Stroke", "stuff", "()I"⟩ m_Stroke_stuff m_Red_stuff 0 := xLu_of 987 596 594 609 600 601 82 602 (by decide +kernel)
theorem l_Wall_153_5 : xLu "HandOverHorse$Wall" 153 (xcn 5) ⟨"HandOverHorse$Stroke", "stuff", "()I"⟩ m_Stroke_stuff m_Black_stuff 0 := xLu_of 987 596 594 609 608 598 83 599 (by decide +kernel)
theorem l_Wall_153_6 : xLu "HandOverHorse$Wall" 153 (xcn 6) ⟨"HandOverHorse$Stroke", "stuff", "()I"⟩ m_Stroke_stuff m_Scratch_stuff 0 := xLu_of 987 596 594 609 603 604 84 605 (by decide +kernel)
theorem l_Wall_153 {c : Nat} (h : c < 7) : xLu "HandOverHorse$Wall" 153 (xcn c) ⟨"HandOverHorse$Stroke", "stuff", "()I"⟩ m_Stroke_stuff (sel_stuff c) 0 := by
  rcases (show c = 0 ∨ c = 1 ∨ c = 2 ∨ c = 3 ∨ c = 4 ∨ c = 5 ∨ c = 6 by omega) with rfl | rfl | rfl | rfl | rfl | rfl | rfl
  · exact l_Wall_153_0
  · exact l_Wall_153_1
  · exact l_Wall_153_2
  · exact l_Wall_153_3
  · exact l_Wall_153_4
  · exact l_Wall_153_5
  · exact l_Wall_153_6
theorem l_Wall_156 : xLs "HandOverHorse$Wall" 156 m_Wall_far 2 := ⟨xLk_of 991 76 993 (by decide +kernel), xw_at 992 (by decide +kernel)⟩
theorem l_Wall_159_0 : xLu "HandOverHorse$Wall" 159 (xcn 0) ⟨"HandOverHorse$Stroke", "gap", "()I"⟩ m_Stroke_gap m_Stroke_gap 0 := xLu_of 994 997 995 1019 996 995 77 1019 (by decide +kernel)
theorem l_Wall_159_1 : xLu "HandOverHorse$Wall" 159 (xcn 1) ⟨"HandOverHorse$Stroke", "gap", "()I"⟩ m_Stroke_gap m_Red_gap 0 := xLu_of 994 997 995 1019 1008 1009 82 1010 (by decide +kernel)
theorem l_Wall_159_2 : xLu "HandOverHorse$Wall" 159 (xcn 2) ⟨"HandOverHorse$Stroke", "gap", "()I"⟩ m_Stroke_gap m_Stroke_gap 0 := xLu_of 994 997 995 1019 998 995 77 1019 (by decide +kernel)
theorem l_Wall_159_3 : xLu "HandOverHorse$Wall" 159 (xcn 3) ⟨"HandOverHorse$Stroke", "gap", "()I"⟩ m_Stroke_gap m_Scratch_gap 0 := xLu_of 994 997 995 1019 1012 1006 84 1007 (by decide +kernel)
theorem l_Wall_159_4 : xLu "HandOverHorse$Wall" 159 (xcn 4) ⟨"HandOverHorse$Stroke", "gap", "()I"⟩ m_Stroke_gap m_Child_gap 0 := xLu_of 994 997 995 1019 999 1000 85 1001 (by decide +kernel)
theorem l_Wall_159_5 : xLu "HandOverHorse$Wall" 159 (xcn 5) ⟨"HandOverHorse$Stroke", "gap", "()I"⟩ m_Stroke_gap m_Soot_gap 0 := xLu_of 994 997 995 1019 1013 1014 86 1015 (by decide +kernel)
theorem l_Wall_159_6 : xLu "HandOverHorse$Wall" 159 (xcn 6) ⟨"HandOverHorse$Stroke", "gap", "()I"⟩ m_Stroke_gap m_Forged_gap 0 := xLu_of 994 997 995 1019 1002 1003 87 1004 (by decide +kernel)
theorem l_Wall_159 {c : Nat} (h : c < 7) : xLu "HandOverHorse$Wall" 159 (xcn c) ⟨"HandOverHorse$Stroke", "gap", "()I"⟩ m_Stroke_gap (sel_gap c) 0 := by
  rcases (show c = 0 ∨ c = 1 ∨ c = 2 ∨ c = 3 ∨ c = 4 ∨ c = 5 ∨ c = 6 by omega) with rfl | rfl | rfl | rfl | rfl | rfl | rfl
  · exact l_Wall_159_0
  · exact l_Wall_159_1
  · exact l_Wall_159_2
  · exact l_Wall_159_3
  · exact l_Wall_159_4
  · exact l_Wall_159_5
  · exact l_Wall_159_6
theorem l_Wall_162 : xLv "HandOverHorse$Wall" 162 m_Wall_areTwo 2 := ⟨xLk_of 687 76 690 (by decide +kernel), xw_at 688 (by decide +kernel), xw_at 689 (by decide +kernel)⟩
theorem l_Wall_173 : xLv "HandOverHorse$Wall" 173 m_Text_read 3 := ⟨xLk_of 735 78 738 (by decide +kernel), xw_at 736 (by decide +kernel), xw_at 737 (by decide +kernel)⟩
theorem l_Wall_177 : xLv "HandOverHorse$Wall" 177 m_Text_isEmpty 0 := ⟨xLk_of 544 78 547 (by decide +kernel), xw_at 545 (by decide +kernel), xw_at 546 (by decide +kernel)⟩
theorem l_Wall_181 : xLv "HandOverHorse$Wall" 181 m_Text_workOut 4 := ⟨xLk_of 548 78 551 (by decide +kernel), xw_at 549 (by decide +kernel), xw_at 550 (by decide +kernel)⟩
theorem l_Wall_185 : xLv "HandOverHorse$Wall" 185 m_Wall_allBelowAre 2 := ⟨xLk_of 1268 76 1271 (by decide +kernel), xw_at 1270 (by decide +kernel), xw_at 22 (by decide +kernel)⟩
theorem l_Sets_3 : Cond.methodLink "HandOverHorse$Sets" 3 Lib.objectInit ∈ xw ∧ Cond.instanceMethod Lib.objectInit ∈ xw ∧ Cond.code Lib.objectInit ⟨#[0xb1]⟩ 1 none ∈ xw := ⟨xw_at 259 (by decide +kernel), xw_at 102 (by decide +kernel), xw_at 103 (by decide +kernel)⟩
theorem l_Sets_52 : xLs "HandOverHorse$Sets" 52 m_Sets_has 2 := ⟨xLk_of 883 79 885 (by decide +kernel), xw_at 884 (by decide +kernel)⟩
theorem l_Sets_56 : xLv "HandOverHorse$Sets" 56 m_Sets_findBelow 1 := ⟨xLk_of 872 79 875 (by decide +kernel), xw_at 874 (by decide +kernel), xw_at 9 (by decide +kernel)⟩
theorem l_Sets_60 : xLs "HandOverHorse$Sets" 60 m_Sets_allOf 1 := ⟨xLk_of 876 79 878 (by decide +kernel), xw_at 877 (by decide +kernel)⟩
theorem l_Sets_64 : xLv "HandOverHorse$Sets" 64 m_Sets_readyAfter 2 := ⟨xLk_of 879 79 882 (by decide +kernel), xw_at 881 (by decide +kernel), xw_at 10 (by decide +kernel)⟩
theorem l_Sets_68 : xLv "HandOverHorse$Sets" 68 m_Wall_weightOf 1 := ⟨xLk_of 907 76 707 (by decide +kernel), xw_at 705 (by decide +kernel), xw_at 706 (by decide +kernel)⟩
theorem l_Sets_72 : xLv "HandOverHorse$Sets" 72 m_Sets_findLosses 1 := ⟨xLk_of 903 79 906 (by decide +kernel), xw_at 905 (by decide +kernel), xw_at 11 (by decide +kernel)⟩
theorem l_Sets_76 : xLv "HandOverHorse$Sets" 76 m_Sets_lossOf 2 := ⟨xLk_of 909 79 912 (by decide +kernel), xw_at 911 (by decide +kernel), xw_at 12 (by decide +kernel)⟩
theorem l_Sets_79 : xLs "HandOverHorse$Sets" 79 m_Math_min 2 := ⟨xLk_of 913 88 563 (by decide +kernel), xw_at 562 (by decide +kernel)⟩
theorem l_Sets_84 : xLv "HandOverHorse$Sets" 84 m_Sets_firstOfBest 2 := ⟨xLk_of 914 79 917 (by decide +kernel), xw_at 916 (by decide +kernel), xw_at 13 (by decide +kernel)⟩
theorem l_Sets_87 : xLv "HandOverHorse$Sets" 87 m_Wall_twoJoin 2 := ⟨xLk_of 1032 76 986 (by decide +kernel), xw_at 984 (by decide +kernel), xw_at 985 (by decide +kernel)⟩
theorem l_Sets_90 : xLs "HandOverHorse$Sets" 90 m_Sets_lowestOf 1 := ⟨xLk_of 1033 79 1035 (by decide +kernel), xw_at 1034 (by decide +kernel)⟩
theorem l_Sets_93 : xLv "HandOverHorse$Sets" 93 m_Sets_findBeasts 1 := ⟨xLk_of 1028 79 1031 (by decide +kernel), xw_at 1030 (by decide +kernel), xw_at 18 (by decide +kernel)⟩
theorem l_Sets_96 : xLs "HandOverHorse$Sets" 96 m_Int_bitCount 1 := ⟨xLk_of 1036 94 1038 (by decide +kernel), xw_at 1037 (by decide +kernel)⟩
theorem l_Sets_101 : xLv "HandOverHorse$Sets" 101 m_Sets_findAlike 1 := ⟨xLk_of 1058 79 1061 (by decide +kernel), xw_at 1060 (by decide +kernel), xw_at 19 (by decide +kernel)⟩
theorem l_Sets_108_0 : xLu "HandOverHorse$Sets" 108 (xcn 0) ⟨"HandOverHorse$Stroke", "stuff", "()I"⟩ m_Stroke_stuff m_Stroke_stuff 0 := xLu_of 1062 596 594 609 595 594 77 609 (by decide +kernel)
theorem l_Sets_108_1 : xLu "HandOverHorse$Sets" 108 (xcn 1) ⟨"HandOverHorse$Stroke", "stuff", "()I"⟩ m_Stroke_stuff m_Red_stuff 0 := xLu_of 1062 596 594 609 606 601 82 602 (by decide +kernel)
theorem l_Sets_108_2 : xLu "HandOverHorse$Sets" 108 (xcn 2) ⟨"HandOverHorse$Stroke", "stuff", "()I"⟩ m_Stroke_stuff m_Black_stuff 0 := xLu_of 1062 596 594 609 597 598 83 599 (by decide +kernel)
theorem l_Sets_108_3 : xLu "HandOverHorse$Sets" 108 (xcn 3) ⟨"HandOverHorse$Stroke", "stuff", "()I"⟩ m_Stroke_stuff m_Scratch_stuff 0 := xLu_of 1062 596 594 609 607 604 84 605 (by decide +kernel)
theorem l_Sets_108_4 : xLu "HandOverHorse$Sets" 108 (xcn 4) ⟨"HandOverHorse$Stroke", "stuff", "()I"⟩ m_Stroke_stuff m_Red_stuff 0 := xLu_of 1062 596 594 609 600 601 82 602 (by decide +kernel)
theorem l_Sets_108_5 : xLu "HandOverHorse$Sets" 108 (xcn 5) ⟨"HandOverHorse$Stroke", "stuff", "()I"⟩ m_Stroke_stuff m_Black_stuff 0 := xLu_of 1062 596 594 609 608 598 83 599 (by decide +kernel)
theorem l_Sets_108_6 : xLu "HandOverHorse$Sets" 108 (xcn 6) ⟨"HandOverHorse$Stroke", "stuff", "()I"⟩ m_Stroke_stuff m_Scratch_stuff 0 := xLu_of 1062 596 594 609 603 604 84 605 (by decide +kernel)
theorem l_Sets_108 {c : Nat} (h : c < 7) : xLu "HandOverHorse$Sets" 108 (xcn c) ⟨"HandOverHorse$Stroke", "stuff", "()I"⟩ m_Stroke_stuff (sel_stuff c) 0 := by
  rcases (show c = 0 ∨ c = 1 ∨ c = 2 ∨ c = 3 ∨ c = 4 ∨ c = 5 ∨ c = 6 by omega) with rfl | rfl | rfl | rfl | rfl | rfl | rfl
  · exact l_Sets_108_0
  · exact l_Sets_108_1
  · exact l_Sets_108_2
  · exact l_Sets_108_3
  · exact l_Sets_108_4
  · exact l_Sets_108_5
  · exact l_Sets_108_6
theorem l_Sets_114 : xLv "HandOverHorse$Sets" 114 m_Sets_areAlike 1 := ⟨xLk_of 1071 79 1074 (by decide +kernel), xw_at 1073 (by decide +kernel), xw_at 20 (by decide +kernel)⟩
theorem l_Spans_3 : Cond.methodLink "HandOverHorse$Spans" 3 Lib.objectInit ∈ xw ∧ Cond.instanceMethod Lib.objectInit ∈ xw ∧ Cond.code Lib.objectInit ⟨#[0xb1]⟩ 1 none ∈ xw := ⟨xw_at 292 (by decide +kernel), xw_at 102 (by decide +kernel), xw_at 103 (by decide +kernel)⟩
theorem l_Spans_36 : xLv "HandOverHorse$Spans" 36 m_Wall_earlyOf 1 := ⟨xLk_of 938 76 503 (by decide +kernel), xw_at 501 (by decide +kernel), xw_at 502 (by decide +kernel)⟩
theorem l_Spans_40 : xLv "HandOverHorse$Spans" 40 m_Wall_lateOf 1 := ⟨xLk_of 939 76 568 (by decide +kernel), xw_at 566 (by decide +kernel), xw_at 567 (by decide +kernel)⟩
theorem l_Spans_43 : xLv "HandOverHorse$Spans" 43 m_Spans_pushUp 1 := ⟨xLk_of 944 80 947 (by decide +kernel), xw_at 946 (by decide +kernel), xw_at 14 (by decide +kernel)⟩
theorem l_Spans_47 : xLv "HandOverHorse$Spans" 47 m_Spans_pushDown 1 := ⟨xLk_of 948 80 951 (by decide +kernel), xw_at 950 (by decide +kernel), xw_at 15 (by decide +kernel)⟩
theorem l_Spans_60 : xLv "HandOverHorse$Spans" 60 m_Spans_settle 1 := ⟨xLk_of 960 80 943 (by decide +kernel), xw_at 941 (by decide +kernel), xw_at 942 (by decide +kernel)⟩
theorem l_Spans_63 : xLv "HandOverHorse$Spans" 63 m_Spans_widthOf 1 := ⟨xLk_of 961 80 964 (by decide +kernel), xw_at 963 (by decide +kernel), xw_at 16 (by decide +kernel)⟩
theorem l_Spans_69 : xLv "HandOverHorse$Spans" 69 m_Spans_worstOf 2 := ⟨xLk_of 973 80 976 (by decide +kernel), xw_at 975 (by decide +kernel), xw_at 17 (by decide +kernel)⟩
theorem l_Spans_76 : xLv "HandOverHorse$Spans" 76 m_Spans_widthByTest 3 := ⟨xLk_of 977 80 959 (by decide +kernel), xw_at 957 (by decide +kernel), xw_at 958 (by decide +kernel)⟩
theorem l_Spans_80 : xLs "HandOverHorse$Spans" 80 m_Math_max 2 := ⟨xLk_of 978 88 525 (by decide +kernel), xw_at 524 (by decide +kernel)⟩
theorem l_H_1 : Cond.methodLink "HandOverHorse" 1 Lib.objectInit ∈ xw ∧ Cond.instanceMethod Lib.objectInit ∈ xw ∧ Cond.code Lib.objectInit ⟨#[0xb1]⟩ 1 none ∈ xw := ⟨xw_at 101 (by decide +kernel), xw_at 102 (by decide +kernel), xw_at 103 (by decide +kernel)⟩
theorem l_H_7 : Cond.classLink "HandOverHorse" 7 (xcn 8) ∈ xw ∧ Cond.instantiable (xcn 8) (xN 8) ∈ xw ∧ Cond.initialized (xcn 8) ∈ xw := ⟨xw_at 104 (by decide +kernel), xw_at 105 (by decide +kernel), xw_at 76 (by decide +kernel)⟩
theorem l_H_9 : xLi "HandOverHorse" 9 m_Wall_init 0 := ⟨xLk_of 106 76 108 (by decide +kernel), xw_at 107 (by decide +kernel), rfl⟩
theorem l_H_19 : Cond.classLink "HandOverHorse" 19 (xcn 9) ∈ xw ∧ Cond.instantiable (xcn 9) (xN 9) ∈ xw ∧ Cond.initialized (xcn 9) ∈ xw := ⟨xw_at 254 (by decide +kernel), xw_at 255 (by decide +kernel), xw_at 79 (by decide +kernel)⟩
theorem l_H_21 : xLi "HandOverHorse" 21 m_Sets_init 0 := ⟨xLk_of 256 79 258 (by decide +kernel), xw_at 257 (by decide +kernel), rfl⟩
theorem l_H_26 : Cond.classLink "HandOverHorse" 26 (xcn 10) ∈ xw ∧ Cond.instantiable (xcn 10) (xN 10) ∈ xw ∧ Cond.initialized (xcn 10) ∈ xw := ⟨xw_at 287 (by decide +kernel), xw_at 288 (by decide +kernel), xw_at 80 (by decide +kernel)⟩
theorem l_H_28 : xLi "HandOverHorse" 28 m_Spans_init 0 := ⟨xLk_of 289 80 291 (by decide +kernel), xw_at 290 (by decide +kernel), rfl⟩
theorem l_H_56 : xLs "HandOverHorse" 56 m_Wall_within 2 := ⟨xLk_of 359 76 361 (by decide +kernel), xw_at 360 (by decide +kernel)⟩
theorem l_H_60 : xLv "HandOverHorse" 60 m_H_error 1 := ⟨xLk_of 362 75 365 (by decide +kernel), xw_at 364 (by decide +kernel), xw_at 0 (by decide +kernel)⟩
theorem l_H_67 : xLv "HandOverHorse" 67 m_Wall_addStroke 3 := ⟨xLk_of 367 76 370 (by decide +kernel), xw_at 368 (by decide +kernel), xw_at 369 (by decide +kernel)⟩
theorem l_H_71 : xLv "HandOverHorse" 71 m_Wall_hasStroke 1 := ⟨xLk_of 462 76 465 (by decide +kernel), xw_at 463 (by decide +kernel), xw_at 464 (by decide +kernel)⟩
theorem l_H_79_0 : xLu "HandOverHorse" 79 (xcn 0) ⟨"HandOverHorse$Stroke", "kind", "()I"⟩ m_Stroke_kind m_Stroke_kind 0 := xLu_of 466 469 467 488 468 467 77 488 (by decide +kernel)
theorem l_H_79_1 : xLu "HandOverHorse" 79 (xcn 1) ⟨"HandOverHorse$Stroke", "kind", "()I"⟩ m_Stroke_kind m_Red_kind 0 := xLu_of 466 469 467 488 479 480 82 481 (by decide +kernel)
theorem l_H_79_2 : xLu "HandOverHorse" 79 (xcn 2) ⟨"HandOverHorse$Stroke", "kind", "()I"⟩ m_Stroke_kind m_Black_kind 0 := xLu_of 466 469 467 488 470 471 83 472 (by decide +kernel)
theorem l_H_79_3 : xLu "HandOverHorse" 79 (xcn 3) ⟨"HandOverHorse$Stroke", "kind", "()I"⟩ m_Stroke_kind m_Scratch_kind 0 := xLu_of 466 469 467 488 482 483 84 484 (by decide +kernel)
theorem l_H_79_4 : xLu "HandOverHorse" 79 (xcn 4) ⟨"HandOverHorse$Stroke", "kind", "()I"⟩ m_Stroke_kind m_Child_kind 0 := xLu_of 466 469 467 488 473 474 85 475 (by decide +kernel)
theorem l_H_79_5 : xLu "HandOverHorse" 79 (xcn 5) ⟨"HandOverHorse$Stroke", "kind", "()I"⟩ m_Stroke_kind m_Soot_kind 0 := xLu_of 466 469 467 488 485 486 86 487 (by decide +kernel)
theorem l_H_79_6 : xLu "HandOverHorse" 79 (xcn 6) ⟨"HandOverHorse$Stroke", "kind", "()I"⟩ m_Stroke_kind m_Forged_kind 0 := xLu_of 466 469 467 488 476 477 87 478 (by decide +kernel)
theorem l_H_79 {c : Nat} (h : c < 7) : xLu "HandOverHorse" 79 (xcn c) ⟨"HandOverHorse$Stroke", "kind", "()I"⟩ m_Stroke_kind (sel_kind c) 0 := by
  rcases (show c = 0 ∨ c = 1 ∨ c = 2 ∨ c = 3 ∨ c = 4 ∨ c = 5 ∨ c = 6 by omega) with rfl | rfl | rfl | rfl | rfl | rfl | rfl
  · exact l_H_79_0
  · exact l_H_79_1
  · exact l_H_79_2
  · exact l_H_79_3
  · exact l_H_79_4
  · exact l_H_79_5
  · exact l_H_79_6
theorem l_H_85_0 : xLu "HandOverHorse" 85 (xcn 0) ⟨"HandOverHorse$Stroke", "part", "(I)I"⟩ m_Stroke_part m_Stroke_part 1 := xLu_of 489 492 490 499 491 490 77 499 (by decide +kernel)
theorem l_H_85_1 : xLu "HandOverHorse" 85 (xcn 1) ⟨"HandOverHorse$Stroke", "part", "(I)I"⟩ m_Stroke_part m_Stroke_part 1 := xLu_of 489 492 490 499 496 490 77 499 (by decide +kernel)
theorem l_H_85_2 : xLu "HandOverHorse" 85 (xcn 2) ⟨"HandOverHorse$Stroke", "part", "(I)I"⟩ m_Stroke_part m_Stroke_part 1 := xLu_of 489 492 490 499 493 490 77 499 (by decide +kernel)
theorem l_H_85_3 : xLu "HandOverHorse" 85 (xcn 3) ⟨"HandOverHorse$Stroke", "part", "(I)I"⟩ m_Stroke_part m_Stroke_part 1 := xLu_of 489 492 490 499 497 490 77 499 (by decide +kernel)
theorem l_H_85_4 : xLu "HandOverHorse" 85 (xcn 4) ⟨"HandOverHorse$Stroke", "part", "(I)I"⟩ m_Stroke_part m_Stroke_part 1 := xLu_of 489 492 490 499 494 490 77 499 (by decide +kernel)
theorem l_H_85_5 : xLu "HandOverHorse" 85 (xcn 5) ⟨"HandOverHorse$Stroke", "part", "(I)I"⟩ m_Stroke_part m_Stroke_part 1 := xLu_of 489 492 490 499 498 490 77 499 (by decide +kernel)
theorem l_H_85_6 : xLu "HandOverHorse" 85 (xcn 6) ⟨"HandOverHorse$Stroke", "part", "(I)I"⟩ m_Stroke_part m_Stroke_part 1 := xLu_of 489 492 490 499 495 490 77 499 (by decide +kernel)
theorem l_H_85 {c : Nat} (h : c < 7) : xLu "HandOverHorse" 85 (xcn c) ⟨"HandOverHorse$Stroke", "part", "(I)I"⟩ m_Stroke_part (sel_part c) 1 := by
  rcases (show c = 0 ∨ c = 1 ∨ c = 2 ∨ c = 3 ∨ c = 4 ∨ c = 5 ∨ c = 6 by omega) with rfl | rfl | rfl | rfl | rfl | rfl | rfl
  · exact l_H_85_0
  · exact l_H_85_1
  · exact l_H_85_2
  · exact l_H_85_3
  · exact l_H_85_4
  · exact l_H_85_5
  · exact l_H_85_6
theorem l_H_88 : xLv "HandOverHorse" 88 m_Wall_earlyOf 1 := ⟨xLk_of 500 76 503 (by decide +kernel), xw_at 501 (by decide +kernel), xw_at 502 (by decide +kernel)⟩
theorem l_H_91 : xLv "HandOverHorse" 91 m_Wall_lateOf 1 := ⟨xLk_of 565 76 568 (by decide +kernel), xw_at 566 (by decide +kernel), xw_at 567 (by decide +kernel)⟩
theorem l_H_94_0 : xLu "HandOverHorse" 94 (xcn 0) ⟨"HandOverHorse$Stroke", "stuff", "()I"⟩ m_Stroke_stuff m_Stroke_stuff 0 := xLu_of 593 596 594 609 595 594 77 609 (by decide +kernel)
theorem l_H_94_1 : xLu "HandOverHorse" 94 (xcn 1) ⟨"HandOverHorse$Stroke", "stuff", "()I"⟩ m_Stroke_stuff m_Red_stuff 0 := xLu_of 593 596 594 609 606 601 82 602 (by decide +kernel)
theorem l_H_94_2 : xLu "HandOverHorse" 94 (xcn 2) ⟨"HandOverHorse$Stroke", "stuff", "()I"⟩ m_Stroke_stuff m_Black_stuff 0 := xLu_of 593 596 594 609 597 598 83 599 (by decide +kernel)
theorem l_H_94_3 : xLu "HandOverHorse" 94 (xcn 3) ⟨"HandOverHorse$Stroke", "stuff", "()I"⟩ m_Stroke_stuff m_Scratch_stuff 0 := xLu_of 593 596 594 609 607 604 84 605 (by decide +kernel)
theorem l_H_94_4 : xLu "HandOverHorse" 94 (xcn 4) ⟨"HandOverHorse$Stroke", "stuff", "()I"⟩ m_Stroke_stuff m_Red_stuff 0 := xLu_of 593 596 594 609 600 601 82 602 (by decide +kernel)
theorem l_H_94_5 : xLu "HandOverHorse" 94 (xcn 5) ⟨"HandOverHorse$Stroke", "stuff", "()I"⟩ m_Stroke_stuff m_Black_stuff 0 := xLu_of 593 596 594 609 608 598 83 599 (by decide +kernel)
theorem l_H_94_6 : xLu "HandOverHorse" 94 (xcn 6) ⟨"HandOverHorse$Stroke", "stuff", "()I"⟩ m_Stroke_stuff m_Scratch_stuff 0 := xLu_of 593 596 594 609 603 604 84 605 (by decide +kernel)
theorem l_H_94 {c : Nat} (h : c < 7) : xLu "HandOverHorse" 94 (xcn c) ⟨"HandOverHorse$Stroke", "stuff", "()I"⟩ m_Stroke_stuff (sel_stuff c) 0 := by
  rcases (show c = 0 ∨ c = 1 ∨ c = 2 ∨ c = 3 ∨ c = 4 ∨ c = 5 ∨ c = 6 by omega) with rfl | rfl | rfl | rfl | rfl | rfl | rfl
  · exact l_H_94_0
  · exact l_H_94_1
  · exact l_H_94_2
  · exact l_H_94_3
  · exact l_H_94_4
  · exact l_H_94_5
  · exact l_H_94_6
theorem l_H_100_0 : xLu "HandOverHorse" 100 (xcn 0) ⟨"HandOverHorse$Stroke", "setPart", "(II)V"⟩ m_Stroke_setPart m_Stroke_setPart 2 := xLu_of 616 619 617 626 618 617 77 626 (by decide +kernel)
theorem l_H_100_1 : xLu "HandOverHorse" 100 (xcn 1) ⟨"HandOverHorse$Stroke", "setPart", "(II)V"⟩ m_Stroke_setPart m_Stroke_setPart 2 := xLu_of 616 619 617 626 623 617 77 626 (by decide +kernel)
theorem l_H_100_2 : xLu "HandOverHorse" 100 (xcn 2) ⟨"HandOverHorse$Stroke", "setPart", "(II)V"⟩ m_Stroke_setPart m_Stroke_setPart 2 := xLu_of 616 619 617 626 620 617 77 626 (by decide +kernel)
theorem l_H_100_3 : xLu "HandOverHorse" 100 (xcn 3) ⟨"HandOverHorse$Stroke", "setPart", "(II)V"⟩ m_Stroke_setPart m_Stroke_setPart 2 := xLu_of 616 619 617 626 624 617 77 626 (by decide +kernel)
theorem l_H_100_4 : xLu "HandOverHorse" 100 (xcn 4) ⟨"HandOverHorse$Stroke", "setPart", "(II)V"⟩ m_Stroke_setPart m_Stroke_setPart 2 := xLu_of 616 619 617 626 621 617 77 626 (by decide +kernel)
theorem l_H_100_5 : xLu "HandOverHorse" 100 (xcn 5) ⟨"HandOverHorse$Stroke", "setPart", "(II)V"⟩ m_Stroke_setPart m_Stroke_setPart 2 := xLu_of 616 619 617 626 625 617 77 626 (by decide +kernel)
theorem l_H_100_6 : xLu "HandOverHorse" 100 (xcn 6) ⟨"HandOverHorse$Stroke", "setPart", "(II)V"⟩ m_Stroke_setPart m_Stroke_setPart 2 := xLu_of 616 619 617 626 622 617 77 626 (by decide +kernel)
theorem l_H_100 {c : Nat} (h : c < 7) : xLu "HandOverHorse" 100 (xcn c) ⟨"HandOverHorse$Stroke", "setPart", "(II)V"⟩ m_Stroke_setPart (sel_setPart c) 2 := by
  rcases (show c = 0 ∨ c = 1 ∨ c = 2 ∨ c = 3 ∨ c = 4 ∨ c = 5 ∨ c = 6 by omega) with rfl | rfl | rfl | rfl | rfl | rfl | rfl
  · exact l_H_100_0
  · exact l_H_100_1
  · exact l_H_100_2
  · exact l_H_100_3
  · exact l_H_100_4
  · exact l_H_100_5
  · exact l_H_100_6
theorem l_H_104 : xLv "HandOverHorse" 104 m_Wall_makeOfKind 2 := ⟨xLk_of 631 76 634 (by decide +kernel), xw_at 632 (by decide +kernel), xw_at 633 (by decide +kernel)⟩
theorem l_H_110_0 : xLu "HandOverHorse" 110 (xcn 0) ⟨"HandOverHorse$Stroke", "isOf", "(I)Z"⟩ m_Stroke_isOf m_Stroke_isOf 1 := xLu_of 650 653 651 678 652 651 77 678 (by decide +kernel)
theorem l_H_110_1 : xLu "HandOverHorse" 110 (xcn 1) ⟨"HandOverHorse$Stroke", "isOf", "(I)Z"⟩ m_Stroke_isOf m_Red_isOf 1 := xLu_of 650 653 651 678 672 662 82 663 (by decide +kernel)
theorem l_H_110_2 : xLu "HandOverHorse" 110 (xcn 2) ⟨"HandOverHorse$Stroke", "isOf", "(I)Z"⟩ m_Stroke_isOf m_Black_isOf 1 := xLu_of 650 653 651 678 654 655 83 656 (by decide +kernel)
theorem l_H_110_3 : xLu "HandOverHorse" 110 (xcn 3) ⟨"HandOverHorse$Stroke", "isOf", "(I)Z"⟩ m_Stroke_isOf m_Scratch_isOf 1 := xLu_of 650 653 651 678 673 669 84 670 (by decide +kernel)
theorem l_H_110_4 : xLu "HandOverHorse" 110 (xcn 4) ⟨"HandOverHorse$Stroke", "isOf", "(I)Z"⟩ m_Stroke_isOf m_Child_isOf 1 := xLu_of 650 653 651 678 658 659 85 660 (by decide +kernel)
theorem l_H_110_5 : xLu "HandOverHorse" 110 (xcn 5) ⟨"HandOverHorse$Stroke", "isOf", "(I)Z"⟩ m_Stroke_isOf m_Soot_isOf 1 := xLu_of 650 653 651 678 674 675 86 676 (by decide +kernel)
theorem l_H_110_6 : xLu "HandOverHorse" 110 (xcn 6) ⟨"HandOverHorse$Stroke", "isOf", "(I)Z"⟩ m_Stroke_isOf m_Forged_isOf 1 := xLu_of 650 653 651 678 665 666 87 667 (by decide +kernel)
theorem l_H_110 {c : Nat} (h : c < 7) : xLu "HandOverHorse" 110 (xcn c) ⟨"HandOverHorse$Stroke", "isOf", "(I)Z"⟩ m_Stroke_isOf (sel_isOf c) 1 := by
  rcases (show c = 0 ∨ c = 1 ∨ c = 2 ∨ c = 3 ∨ c = 4 ∨ c = 5 ∨ c = 6 by omega) with rfl | rfl | rfl | rfl | rfl | rfl | rfl
  · exact l_H_110_0
  · exact l_H_110_1
  · exact l_H_110_2
  · exact l_H_110_3
  · exact l_H_110_4
  · exact l_H_110_5
  · exact l_H_110_6
theorem l_H_113 : xLv "HandOverHorse" 113 m_Wall_isLook 3 := ⟨xLk_of 683 76 686 (by decide +kernel), xw_at 684 (by decide +kernel), xw_at 685 (by decide +kernel)⟩
theorem l_H_120 : xLv "HandOverHorse" 120 m_Wall_addLook 3 := ⟨xLk_of 692 76 695 (by decide +kernel), xw_at 693 (by decide +kernel), xw_at 694 (by decide +kernel)⟩
theorem l_H_123 : xLv "HandOverHorse" 123 m_Wall_hasLook 1 := ⟨xLk_of 700 76 703 (by decide +kernel), xw_at 701 (by decide +kernel), xw_at 702 (by decide +kernel)⟩
theorem l_H_135 : xLv "HandOverHorse" 135 m_Wall_weightOf 1 := ⟨xLk_of 704 76 707 (by decide +kernel), xw_at 705 (by decide +kernel), xw_at 706 (by decide +kernel)⟩
theorem l_H_141 : xLv "HandOverHorse" 141 m_Wall_addBytes 2 := ⟨xLk_of 720 76 723 (by decide +kernel), xw_at 721 (by decide +kernel), xw_at 722 (by decide +kernel)⟩
theorem l_H_145 : xLv "HandOverHorse" 145 m_Wall_readTape 1 := ⟨xLk_of 729 76 732 (by decide +kernel), xw_at 730 (by decide +kernel), xw_at 731 (by decide +kernel)⟩
theorem l_H_148 : xLv "HandOverHorse" 148 m_Wall_givenBy 5 := ⟨xLk_of 863 76 543 (by decide +kernel), xw_at 541 (by decide +kernel), xw_at 542 (by decide +kernel)⟩
theorem l_H_152 : xLv "HandOverHorse" 152 m_Sets_countOrders 1 := ⟨xLk_of 868 79 871 (by decide +kernel), xw_at 869 (by decide +kernel), xw_at 870 (by decide +kernel)⟩
theorem l_H_156 : xLv "HandOverHorse" 156 m_Wall_areTwo 2 := ⟨xLk_of 890 76 690 (by decide +kernel), xw_at 688 (by decide +kernel), xw_at 689 (by decide +kernel)⟩
theorem l_H_159 : xLv "HandOverHorse" 159 m_Sets_surely 3 := ⟨xLk_of 891 79 894 (by decide +kernel), xw_at 892 (by decide +kernel), xw_at 893 (by decide +kernel)⟩
theorem l_H_163 : xLv "HandOverHorse" 163 m_Sets_findBestOrder 1 := ⟨xLk_of 899 79 902 (by decide +kernel), xw_at 900 (by decide +kernel), xw_at 901 (by decide +kernel)⟩
theorem l_H_167 : xLv "HandOverHorse" 167 m_Sets_leastLoss 0 := ⟨xLk_of 918 79 921 (by decide +kernel), xw_at 919 (by decide +kernel), xw_at 920 (by decide +kernel)⟩
theorem l_H_170 : xLv "HandOverHorse" 170 m_Sets_looksNotHeld 1 := ⟨xLk_of 922 79 925 (by decide +kernel), xw_at 923 (by decide +kernel), xw_at 924 (by decide +kernel)⟩
theorem l_H_176 : xLv "HandOverHorse" 176 m_Spans_load 1 := ⟨xLk_of 934 80 937 (by decide +kernel), xw_at 935 (by decide +kernel), xw_at 936 (by decide +kernel)⟩
theorem l_H_179 : xLv "HandOverHorse" 179 m_Spans_settle 1 := ⟨xLk_of 940 80 943 (by decide +kernel), xw_at 941 (by decide +kernel), xw_at 942 (by decide +kernel)⟩
theorem l_H_189 : xLv "HandOverHorse" 189 m_Spans_widthByTest 3 := ⟨xLk_of 956 80 959 (by decide +kernel), xw_at 957 (by decide +kernel), xw_at 958 (by decide +kernel)⟩
theorem l_H_192 : xLv "HandOverHorse" 192 m_Spans_findNext 1 := ⟨xLk_of 969 80 972 (by decide +kernel), xw_at 970 (by decide +kernel), xw_at 971 (by decide +kernel)⟩
theorem l_H_201 : xLv "HandOverHorse" 201 m_Wall_twoJoin 2 := ⟨xLk_of 983 76 986 (by decide +kernel), xw_at 984 (by decide +kernel), xw_at 985 (by decide +kernel)⟩
theorem l_H_204 : xLv "HandOverHorse" 204 m_Sets_findJoinings 1 := ⟨xLk_of 1024 79 1027 (by decide +kernel), xw_at 1025 (by decide +kernel), xw_at 1026 (by decide +kernel)⟩
theorem l_H_207 : xLv "HandOverHorse" 207 m_Sets_joiningCount 1 := ⟨xLk_of 1042 79 1045 (by decide +kernel), xw_at 1043 (by decide +kernel), xw_at 1044 (by decide +kernel)⟩
theorem l_H_210 : xLv "HandOverHorse" 210 m_Sets_fewestBeasts 1 := ⟨xLk_of 1046 79 1049 (by decide +kernel), xw_at 1047 (by decide +kernel), xw_at 1048 (by decide +kernel)⟩
theorem l_H_213 : xLv "HandOverHorse" 213 m_Sets_findTimes 1 := ⟨xLk_of 1054 79 1057 (by decide +kernel), xw_at 1055 (by decide +kernel), xw_at 1056 (by decide +kernel)⟩
theorem l_H_216 : xLv "HandOverHorse" 216 m_Sets_fewestTimes 0 := ⟨xLk_of 1063 79 1066 (by decide +kernel), xw_at 1064 (by decide +kernel), xw_at 1065 (by decide +kernel)⟩
theorem l_H_219 : xLv "HandOverHorse" 219 m_Sets_firstTime 1 := ⟨xLk_of 1067 79 1070 (by decide +kernel), xw_at 1068 (by decide +kernel), xw_at 1069 (by decide +kernel)⟩
theorem l_H_225 : xLs "HandOverHorse" 225 m_Wall_far 2 := ⟨xLk_of 1079 76 993 (by decide +kernel), xw_at 992 (by decide +kernel)⟩
theorem l_H_229 : xLv "HandOverHorse" 229 m_Wall_handsFrom 1 := ⟨xLk_of 1084 76 1087 (by decide +kernel), xw_at 1085 (by decide +kernel), xw_at 1086 (by decide +kernel)⟩
theorem l_H_232 : xLs "HandOverHorse" 232 m_Int_bitCount 1 := ⟨xLk_of 1088 94 1038 (by decide +kernel), xw_at 1037 (by decide +kernel)⟩
theorem l_H_237 : xLv "HandOverHorse" 237 m_Wall_drawn 0 := ⟨xLk_of 1093 76 1096 (by decide +kernel), xw_at 1094 (by decide +kernel), xw_at 1095 (by decide +kernel)⟩
theorem l_H_240 : xLv "HandOverHorse" 240 m_Wall_turnLook 1 := ⟨xLk_of 1098 76 1101 (by decide +kernel), xw_at 1099 (by decide +kernel), xw_at 1100 (by decide +kernel)⟩
theorem l_H_247_0 : xLu "HandOverHorse" 247 (xcn 0) ⟨"HandOverHorse$Stroke", "draws", "([II)I"⟩ m_Stroke_draws m_Stroke_draws 2 := xLu_of 1110 1113 1111 1127 1112 1111 77 1127 (by decide +kernel)
theorem l_H_247_1 : xLu "HandOverHorse" 247 (xcn 1) ⟨"HandOverHorse$Stroke", "draws", "([II)I"⟩ m_Stroke_draws m_Stroke_draws 2 := xLu_of 1110 1113 1111 1127 1124 1111 77 1127 (by decide +kernel)
theorem l_H_247_2 : xLu "HandOverHorse" 247 (xcn 2) ⟨"HandOverHorse$Stroke", "draws", "([II)I"⟩ m_Stroke_draws m_Black_draws 2 := xLu_of 1110 1113 1111 1127 1114 1115 83 1116 (by decide +kernel)
theorem l_H_247_3 : xLu "HandOverHorse" 247 (xcn 3) ⟨"HandOverHorse$Stroke", "draws", "([II)I"⟩ m_Stroke_draws m_Stroke_draws 2 := xLu_of 1110 1113 1111 1127 1125 1111 77 1127 (by decide +kernel)
theorem l_H_247_4 : xLu "HandOverHorse" 247 (xcn 4) ⟨"HandOverHorse$Stroke", "draws", "([II)I"⟩ m_Stroke_draws m_Stroke_draws 2 := xLu_of 1110 1113 1111 1127 1122 1111 77 1127 (by decide +kernel)
theorem l_H_247_5 : xLu "HandOverHorse" 247 (xcn 5) ⟨"HandOverHorse$Stroke", "draws", "([II)I"⟩ m_Stroke_draws m_Black_draws 2 := xLu_of 1110 1113 1111 1127 1126 1115 83 1116 (by decide +kernel)
theorem l_H_247_6 : xLu "HandOverHorse" 247 (xcn 6) ⟨"HandOverHorse$Stroke", "draws", "([II)I"⟩ m_Stroke_draws m_Stroke_draws 2 := xLu_of 1110 1113 1111 1127 1123 1111 77 1127 (by decide +kernel)
theorem l_H_247 {c : Nat} (h : c < 7) : xLu "HandOverHorse" 247 (xcn c) ⟨"HandOverHorse$Stroke", "draws", "([II)I"⟩ m_Stroke_draws (sel_draws c) 2 := by
  rcases (show c = 0 ∨ c = 1 ∨ c = 2 ∨ c = 3 ∨ c = 4 ∨ c = 5 ∨ c = 6 by omega) with rfl | rfl | rfl | rfl | rfl | rfl | rfl
  · exact l_H_247_0
  · exact l_H_247_1
  · exact l_H_247_2
  · exact l_H_247_3
  · exact l_H_247_4
  · exact l_H_247_5
  · exact l_H_247_6
theorem l_H_251_0 : xLu "HandOverHorse" 251 (xcn 0) ⟨"HandOverHorse$Stroke", "dries", "([II)I"⟩ m_Stroke_dries m_Stroke_dries 2 := xLu_of 1129 1132 1130 1156 1131 1130 77 1156 (by decide +kernel)
theorem l_H_251_1 : xLu "HandOverHorse" 251 (xcn 1) ⟨"HandOverHorse$Stroke", "dries", "([II)I"⟩ m_Stroke_dries m_Red_dries 2 := xLu_of 1129 1132 1130 1156 1153 1140 82 1141 (by decide +kernel)
theorem l_H_251_2 : xLu "HandOverHorse" 251 (xcn 2) ⟨"HandOverHorse$Stroke", "dries", "([II)I"⟩ m_Stroke_dries m_Stroke_dries 2 := xLu_of 1129 1132 1130 1156 1133 1130 77 1156 (by decide +kernel)
theorem l_H_251_3 : xLu "HandOverHorse" 251 (xcn 3) ⟨"HandOverHorse$Stroke", "dries", "([II)I"⟩ m_Stroke_dries m_Stroke_dries 2 := xLu_of 1129 1132 1130 1156 1154 1130 77 1156 (by decide +kernel)
theorem l_H_251_4 : xLu "HandOverHorse" 251 (xcn 4) ⟨"HandOverHorse$Stroke", "dries", "([II)I"⟩ m_Stroke_dries m_Child_dries 2 := xLu_of 1129 1132 1130 1156 1134 1135 85 1136 (by decide +kernel)
theorem l_H_251_5 : xLu "HandOverHorse" 251 (xcn 5) ⟨"HandOverHorse$Stroke", "dries", "([II)I"⟩ m_Stroke_dries m_Stroke_dries 2 := xLu_of 1129 1132 1130 1156 1155 1130 77 1156 (by decide +kernel)
theorem l_H_251_6 : xLu "HandOverHorse" 251 (xcn 6) ⟨"HandOverHorse$Stroke", "dries", "([II)I"⟩ m_Stroke_dries m_Stroke_dries 2 := xLu_of 1129 1132 1130 1156 1152 1130 77 1156 (by decide +kernel)
theorem l_H_251 {c : Nat} (h : c < 7) : xLu "HandOverHorse" 251 (xcn c) ⟨"HandOverHorse$Stroke", "dries", "([II)I"⟩ m_Stroke_dries (sel_dries c) 2 := by
  rcases (show c = 0 ∨ c = 1 ∨ c = 2 ∨ c = 3 ∨ c = 4 ∨ c = 5 ∨ c = 6 by omega) with rfl | rfl | rfl | rfl | rfl | rfl | rfl
  · exact l_H_251_0
  · exact l_H_251_1
  · exact l_H_251_2
  · exact l_H_251_3
  · exact l_H_251_4
  · exact l_H_251_5
  · exact l_H_251_6
theorem l_H_254_0 : xLu "HandOverHorse" 254 (xcn 0) ⟨"HandOverHorse$Stroke", "peels", "([II)I"⟩ m_Stroke_peels m_Stroke_peels 2 := xLu_of 1158 1783 1150 1151 1791 1150 77 1151 (by decide +kernel)
theorem l_H_254_1 : xLu "HandOverHorse" 254 (xcn 1) ⟨"HandOverHorse$Stroke", "peels", "([II)I"⟩ m_Stroke_peels m_Stroke_peels 2 := xLu_of 1158 1783 1150 1151 1788 1150 77 1151 (by decide +kernel)
theorem l_H_254_2 : xLu "HandOverHorse" 254 (xcn 2) ⟨"HandOverHorse$Stroke", "peels", "([II)I"⟩ m_Stroke_peels m_Stroke_peels 2 := xLu_of 1158 1783 1150 1151 1784 1150 77 1151 (by decide +kernel)
theorem l_H_254_3 : xLu "HandOverHorse" 254 (xcn 3) ⟨"HandOverHorse$Stroke", "peels", "([II)I"⟩ m_Stroke_peels m_Scratch_peels 2 := xLu_of 1158 1783 1150 1151 1789 1164 84 1165 (by decide +kernel)
theorem l_H_254_4 : xLu "HandOverHorse" 254 (xcn 4) ⟨"HandOverHorse$Stroke", "peels", "([II)I"⟩ m_Stroke_peels m_Stroke_peels 2 := xLu_of 1158 1783 1150 1151 1785 1150 77 1151 (by decide +kernel)
theorem l_H_254_5 : xLu "HandOverHorse" 254 (xcn 5) ⟨"HandOverHorse$Stroke", "peels", "([II)I"⟩ m_Stroke_peels m_Stroke_peels 2 := xLu_of 1158 1783 1150 1151 1790 1150 77 1151 (by decide +kernel)
theorem l_H_254_6 : xLu "HandOverHorse" 254 (xcn 6) ⟨"HandOverHorse$Stroke", "peels", "([II)I"⟩ m_Stroke_peels m_Forged_peels 2 := xLu_of 1158 1783 1150 1151 1786 1159 87 1160 (by decide +kernel)
theorem l_H_254 {c : Nat} (h : c < 7) : xLu "HandOverHorse" 254 (xcn c) ⟨"HandOverHorse$Stroke", "peels", "([II)I"⟩ m_Stroke_peels (sel_peels c) 2 := by
  rcases (show c = 0 ∨ c = 1 ∨ c = 2 ∨ c = 3 ∨ c = 4 ∨ c = 5 ∨ c = 6 by omega) with rfl | rfl | rfl | rfl | rfl | rfl | rfl
  · exact l_H_254_0
  · exact l_H_254_1
  · exact l_H_254_2
  · exact l_H_254_3
  · exact l_H_254_4
  · exact l_H_254_5
  · exact l_H_254_6
theorem l_H_257_0 : xLu "HandOverHorse" 257 (xcn 0) ⟨"HandOverHorse$Stroke", "tells", "([II)I"⟩ m_Stroke_tells m_Stroke_tells 2 := xLu_of 1169 1172 1170 1198 1171 1170 77 1198 (by decide +kernel)
theorem l_H_257_1 : xLu "HandOverHorse" 257 (xcn 1) ⟨"HandOverHorse$Stroke", "tells", "([II)I"⟩ m_Stroke_tells m_Stroke_tells 2 := xLu_of 1169 1172 1170 1198 1185 1170 77 1198 (by decide +kernel)
theorem l_H_257_2 : xLu "HandOverHorse" 257 (xcn 2) ⟨"HandOverHorse$Stroke", "tells", "([II)I"⟩ m_Stroke_tells m_Stroke_tells 2 := xLu_of 1169 1172 1170 1198 1173 1170 77 1198 (by decide +kernel)
theorem l_H_257_3 : xLu "HandOverHorse" 257 (xcn 3) ⟨"HandOverHorse$Stroke", "tells", "([II)I"⟩ m_Stroke_tells m_Stroke_tells 2 := xLu_of 1169 1172 1170 1198 1186 1170 77 1198 (by decide +kernel)
theorem l_H_257_4 : xLu "HandOverHorse" 257 (xcn 4) ⟨"HandOverHorse$Stroke", "tells", "([II)I"⟩ m_Stroke_tells m_Stroke_tells 2 := xLu_of 1169 1172 1170 1198 1174 1170 77 1198 (by decide +kernel)
theorem l_H_257_5 : xLu "HandOverHorse" 257 (xcn 5) ⟨"HandOverHorse$Stroke", "tells", "([II)I"⟩ m_Stroke_tells m_Soot_tells 2 := xLu_of 1169 1172 1170 1198 1187 1188 86 1189 (by decide +kernel)
theorem l_H_257_6 : xLu "HandOverHorse" 257 (xcn 6) ⟨"HandOverHorse$Stroke", "tells", "([II)I"⟩ m_Stroke_tells m_Forged_tells 2 := xLu_of 1169 1172 1170 1198 1175 1176 87 1177 (by decide +kernel)
theorem l_H_257 {c : Nat} (h : c < 7) : xLu "HandOverHorse" 257 (xcn c) ⟨"HandOverHorse$Stroke", "tells", "([II)I"⟩ m_Stroke_tells (sel_tells c) 2 := by
  rcases (show c = 0 ∨ c = 1 ∨ c = 2 ∨ c = 3 ∨ c = 4 ∨ c = 5 ∨ c = 6 by omega) with rfl | rfl | rfl | rfl | rfl | rfl | rfl
  · exact l_H_257_0
  · exact l_H_257_1
  · exact l_H_257_2
  · exact l_H_257_3
  · exact l_H_257_4
  · exact l_H_257_5
  · exact l_H_257_6
theorem l_H_260 : xLs "HandOverHorse" 260 m_H_isSheet 1 := ⟨xLk_of 1209 75 1211 (by decide +kernel), xw_at 1210 (by decide +kernel)⟩
theorem l_H_263 : xLs "HandOverHorse" 263 m_H_areBits 1 := ⟨xLk_of 1212 75 1214 (by decide +kernel), xw_at 1213 (by decide +kernel)⟩
theorem l_H_266 : xLv "HandOverHorse" 266 m_H_stand 3 := ⟨xLk_of 1223 75 1226 (by decide +kernel), xw_at 1225 (by decide +kernel), xw_at 21 (by decide +kernel)⟩
theorem l_H_275 : xLv "HandOverHorse" 275 m_Wall_holdsUpTo 2 := ⟨xLk_of 1238 76 1241 (by decide +kernel), xw_at 1239 (by decide +kernel), xw_at 1240 (by decide +kernel)⟩
theorem l_H_279 : xLv "HandOverHorse" 279 m_Wall_copyFrom 1 := ⟨xLk_of 1246 76 1249 (by decide +kernel), xw_at 1247 (by decide +kernel), xw_at 1248 (by decide +kernel)⟩
theorem l_H_288 : xLv "HandOverHorse" 288 m_Wall_faultOfWaiting 0 := ⟨xLk_of 1264 76 1267 (by decide +kernel), xw_at 1265 (by decide +kernel), xw_at 1266 (by decide +kernel)⟩
end
section
theorem l_Model_1 : Cond.methodLink "HandOverHorseModel" 1 Lib.objectInit ∈ xw ∧ Cond.instanceMethod Lib.objectInit ∈ xw ∧ Cond.code Lib.objectInit ⟨#[0xb1]⟩ 1 none ∈ xw := ⟨xw_at 1285 (by decide +kernel), xw_at 102 (by decide +kernel), xw_at 103 (by decide +kernel)⟩
theorem l_Model_66 : xLs "HandOverHorseModel" 66 m_Model_in 3 := ⟨xLk_of 1373 81 1375 (by decide +kernel), xw_at 1374 (by decide +kernel)⟩
theorem l_Model_83 : xLv "HandOverHorseModel" 83 m_Model_here 0 := ⟨xLk_of 1414 81 1417 (by decide +kernel), xw_at 1416 (by decide +kernel), xw_at 31 (by decide +kernel)⟩
theorem l_Model_91 : xLv "HandOverHorseModel" 91 m_Model_both 0 := ⟨xLk_of 1394 81 1397 (by decide +kernel), xw_at 1396 (by decide +kernel), xw_at 26 (by decide +kernel)⟩
theorem l_Model_94 : xLv "HandOverHorseModel" 94 m_Model_takes 1 := ⟨xLk_of 1422 81 1425 (by decide +kernel), xw_at 1424 (by decide +kernel), xw_at 33 (by decide +kernel)⟩
theorem l_Model_98 : xLv "HandOverHorseModel" 98 m_Model_compared 0 := ⟨xLk_of 1398 81 1401 (by decide +kernel), xw_at 1400 (by decide +kernel), xw_at 27 (by decide +kernel)⟩
theorem l_Model_101 : xLv "HandOverHorseModel" 101 m_Model_sum 0 := ⟨xLk_of 1402 81 1405 (by decide +kernel), xw_at 1404 (by decide +kernel), xw_at 28 (by decide +kernel)⟩
theorem l_Model_104 : xLv "HandOverHorseModel" 104 m_Model_product 0 := ⟨xLk_of 1406 81 1409 (by decide +kernel), xw_at 1408 (by decide +kernel), xw_at 29 (by decide +kernel)⟩
theorem l_Model_107 : xLv "HandOverHorseModel" 107 m_Model_unit 0 := ⟨xLk_of 1410 81 1413 (by decide +kernel), xw_at 1412 (by decide +kernel), xw_at 30 (by decide +kernel)⟩
theorem l_Model_113 : xLv "HandOverHorseModel" 113 m_Model_wrong 0 := ⟨xLk_of 1418 81 1421 (by decide +kernel), xw_at 1420 (by decide +kernel), xw_at 32 (by decide +kernel)⟩
theorem l_Model_116 : xLv "HandOverHorseModel" 116 m_Model_either 0 := ⟨xLk_of 1390 81 1393 (by decide +kernel), xw_at 1392 (by decide +kernel), xw_at 25 (by decide +kernel)⟩
theorem l_Model_119 : xLv "HandOverHorseModel" 119 m_Model_nameOf 1 := ⟨xLk_of 1426 81 1429 (by decide +kernel), xw_at 1428 (by decide +kernel), xw_at 34 (by decide +kernel)⟩
theorem l_Model_129 : xLv "HandOverHorseModel" 129 m_Model_finds 1 := ⟨xLk_of 1376 81 1379 (by decide +kernel), xw_at 1378 (by decide +kernel), xw_at 23 (by decide +kernel)⟩
theorem l_Model_134 : xLv "HandOverHorseModel" 134 m_Model_worked 3 := ⟨xLk_of 1386 81 1389 (by decide +kernel), xw_at 1388 (by decide +kernel), xw_at 24 (by decide +kernel)⟩
theorem l_Model_138 : xLs "HandOverHorseModel" 138 m_Model_held 3 := ⟨xLk_of 1440 81 1442 (by decide +kernel), xw_at 1441 (by decide +kernel)⟩
theorem l_Model_141 : xLv "HandOverHorseModel" 141 m_Model_gives 5 := ⟨xLk_of 1436 81 1439 (by decide +kernel), xw_at 1438 (by decide +kernel), xw_at 35 (by decide +kernel)⟩
theorem l_Model_151 : xLv "HandOverHorseModel" 151 m_Model_becomes 3 := ⟨xLk_of 1450 81 1453 (by decide +kernel), xw_at 1452 (by decide +kernel), xw_at 36 (by decide +kernel)⟩
theorem l_Model_155 : xLv "HandOverHorseModel" 155 m_Model_of 2 := ⟨xLk_of 1463 81 1466 (by decide +kernel), xw_at 1465 (by decide +kernel), xw_at 38 (by decide +kernel)⟩
theorem l_Model_159 : xLv "HandOverHorseModel" 159 m_Model_dates 1 := ⟨xLk_of 1471 81 1474 (by decide +kernel), xw_at 1473 (by decide +kernel), xw_at 40 (by decide +kernel)⟩
theorem l_Model_162 : xLs "HandOverHorseModel" 162 m_Model_stuffOf 1 := ⟨xLk_of 1483 81 1485 (by decide +kernel), xw_at 1484 (by decide +kernel)⟩
theorem l_Model_165 : xLv "HandOverHorseModel" 165 m_Model_isStroke 1 := ⟨xLk_of 1458 81 1461 (by decide +kernel), xw_at 1460 (by decide +kernel), xw_at 37 (by decide +kernel)⟩
theorem l_Model_170 : xLv "HandOverHorseModel" 170 m_Model_earlyOf 1 := ⟨xLk_of 1467 81 1470 (by decide +kernel), xw_at 1469 (by decide +kernel), xw_at 39 (by decide +kernel)⟩
theorem l_Model_173 : xLv "HandOverHorseModel" 173 m_Model_lateOf 1 := ⟨xLk_of 1475 81 1478 (by decide +kernel), xw_at 1477 (by decide +kernel), xw_at 41 (by decide +kernel)⟩
theorem l_Model_176 : xLv "HandOverHorseModel" 176 m_Model_stuff 1 := ⟨xLk_of 1479 81 1482 (by decide +kernel), xw_at 1481 (by decide +kernel), xw_at 42 (by decide +kernel)⟩
theorem l_Model_179 : xLs "HandOverHorseModel" 179 m_Model_mostOf 1 := ⟨xLk_of 1490 81 1492 (by decide +kernel), xw_at 1491 (by decide +kernel)⟩
theorem l_Model_184 : xLs "HandOverHorseModel" 184 m_Model_above 1 := ⟨xLk_of 1502 81 1504 (by decide +kernel), xw_at 1503 (by decide +kernel)⟩
theorem l_Model_187 : xLv "HandOverHorseModel" 187 m_Model_isTold 3 := ⟨xLk_of 1509 81 1512 (by decide +kernel), xw_at 1511 (by decide +kernel), xw_at 43 (by decide +kernel)⟩
theorem l_Model_191 : xLv "HandOverHorseModel" 191 m_Model_lookComes 3 := ⟨xLk_of 1513 81 1516 (by decide +kernel), xw_at 1515 (by decide +kernel), xw_at 44 (by decide +kernel)⟩
theorem l_Model_194 : xLv "HandOverHorseModel" 194 m_Model_upper 1 := ⟨xLk_of 1530 81 1533 (by decide +kernel), xw_at 1532 (by decide +kernel), xw_at 47 (by decide +kernel)⟩
theorem l_Model_197 : xLv "HandOverHorseModel" 197 m_Model_isLook 1 := ⟨xLk_of 1521 81 1524 (by decide +kernel), xw_at 1523 (by decide +kernel), xw_at 45 (by decide +kernel)⟩
theorem l_Model_202 : xLv "HandOverHorseModel" 202 m_Model_weightOf 1 := ⟨xLk_of 1526 81 1529 (by decide +kernel), xw_at 1528 (by decide +kernel), xw_at 46 (by decide +kernel)⟩
theorem l_Model_205 : xLv "HandOverHorseModel" 205 m_Model_lower 1 := ⟨xLk_of 1554 81 1557 (by decide +kernel), xw_at 1556 (by decide +kernel), xw_at 50 (by decide +kernel)⟩
theorem l_Model_208 : xLv "HandOverHorseModel" 208 m_Model_findBelow 0 := ⟨xLk_of 1550 81 1553 (by decide +kernel), xw_at 1552 (by decide +kernel), xw_at 49 (by decide +kernel)⟩
theorem l_Model_211 : xLv "HandOverHorseModel" 211 m_Model_allStrokes 0 := ⟨xLk_of 1558 81 1561 (by decide +kernel), xw_at 1560 (by decide +kernel), xw_at 51 (by decide +kernel)⟩
theorem l_Model_214 : xLv "HandOverHorseModel" 214 m_Model_mayLie 2 := ⟨xLk_of 1562 81 1565 (by decide +kernel), xw_at 1564 (by decide +kernel), xw_at 52 (by decide +kernel)⟩
theorem l_Model_218 : xLv "HandOverHorseModel" 218 m_Model_countWays 0 := ⟨xLk_of 1546 81 1549 (by decide +kernel), xw_at 1548 (by decide +kernel), xw_at 48 (by decide +kernel)⟩
theorem l_Model_222 : xLv "HandOverHorseModel" 222 m_Model_costs 2 := ⟨xLk_of 1579 81 1582 (by decide +kernel), xw_at 1581 (by decide +kernel), xw_at 54 (by decide +kernel)⟩
theorem l_Model_225 : xLv "HandOverHorseModel" 225 m_Model_findBest 0 := ⟨xLk_of 1574 81 1577 (by decide +kernel), xw_at 1576 (by decide +kernel), xw_at 53 (by decide +kernel)⟩
theorem l_Model_228 : xLv "HandOverHorseModel" 228 m_Model_whichWrong 0 := ⟨xLk_of 1583 81 1586 (by decide +kernel), xw_at 1585 (by decide +kernel), xw_at 55 (by decide +kernel)⟩
theorem l_Model_231 : xLv "HandOverHorseModel" 231 m_Model_findYears 0 := ⟨xLk_of 1595 81 1598 (by decide +kernel), xw_at 1597 (by decide +kernel), xw_at 56 (by decide +kernel)⟩
theorem l_Model_234 : xLv "HandOverHorseModel" 234 m_Model_pushes 0 := ⟨xLk_of 1599 81 1602 (by decide +kernel), xw_at 1601 (by decide +kernel), xw_at 57 (by decide +kernel)⟩
theorem l_Model_240 : xLv "HandOverHorseModel" 240 m_Model_widthBy 2 := ⟨xLk_of 1608 81 1611 (by decide +kernel), xw_at 1610 (by decide +kernel), xw_at 58 (by decide +kernel)⟩
theorem l_Model_243 : xLv "HandOverHorseModel" 243 m_Model_worstOf 1 := ⟨xLk_of 1616 81 1619 (by decide +kernel), xw_at 1618 (by decide +kernel), xw_at 59 (by decide +kernel)⟩
theorem l_Model_246 : xLs "HandOverHorseModel" 246 m_Model_size 1 := ⟨xLk_of 1628 81 1630 (by decide +kernel), xw_at 1629 (by decide +kernel)⟩
theorem l_Model_248 : xLs "HandOverHorseModel" 248 m_Model_farOf 2 := ⟨xLk_of 1631 81 1633 (by decide +kernel), xw_at 1632 (by decide +kernel)⟩
theorem l_Model_251 : xLv "HandOverHorseModel" 251 m_Model_gapOf 1 := ⟨xLk_of 1634 81 1637 (by decide +kernel), xw_at 1636 (by decide +kernel), xw_at 61 (by decide +kernel)⟩
theorem l_Model_254 : xLv "HandOverHorseModel" 254 m_Model_joined 2 := ⟨xLk_of 1624 81 1627 (by decide +kernel), xw_at 1626 (by decide +kernel), xw_at 60 (by decide +kernel)⟩
theorem l_Model_257 : xLv "HandOverHorseModel" 257 m_Model_isBeast 1 := ⟨xLk_of 1642 81 1645 (by decide +kernel), xw_at 1644 (by decide +kernel), xw_at 62 (by decide +kernel)⟩
theorem l_Model_260 : xLv "HandOverHorseModel" 260 m_Model_mayCome 2 := ⟨xLk_of 1650 81 1653 (by decide +kernel), xw_at 1652 (by decide +kernel), xw_at 63 (by decide +kernel)⟩
theorem l_Model_265 : xLv "HandOverHorseModel" 265 m_Model_isHand 2 := ⟨xLk_of 1663 81 1666 (by decide +kernel), xw_at 1665 (by decide +kernel), xw_at 64 (by decide +kernel)⟩
theorem l_Model_268 : xLs "HandOverHorseModel" 268 m_Model_ones 1 := ⟨xLk_of 1667 81 1669 (by decide +kernel), xw_at 1668 (by decide +kernel)⟩
theorem l_Model_272 : xLv "HandOverHorseModel" 272 m_Model_drawn 0 := ⟨xLk_of 1674 81 1677 (by decide +kernel), xw_at 1676 (by decide +kernel), xw_at 65 (by decide +kernel)⟩
theorem l_Model_281 : xLv "HandOverHorseModel" 281 m_Model_ran 1 := ⟨xLk_of 1695 81 1698 (by decide +kernel), xw_at 1697 (by decide +kernel), xw_at 68 (by decide +kernel)⟩
theorem l_Model_285 : xLv "HandOverHorseModel" 285 m_Model_draws 2 := ⟨xLk_of 1691 81 1694 (by decide +kernel), xw_at 1693 (by decide +kernel), xw_at 67 (by decide +kernel)⟩
theorem l_Model_288 : xLv "HandOverHorseModel" 288 m_Model_own 0 := ⟨xLk_of 1687 81 1690 (by decide +kernel), xw_at 1689 (by decide +kernel), xw_at 66 (by decide +kernel)⟩
theorem l_Model_291 : xLv "HandOverHorseModel" 291 m_Model_dries 2 := ⟨xLk_of 1699 81 1702 (by decide +kernel), xw_at 1701 (by decide +kernel), xw_at 69 (by decide +kernel)⟩
theorem l_Model_294 : xLv "HandOverHorseModel" 294 m_Model_peels 2 := ⟨xLk_of 1703 81 1706 (by decide +kernel), xw_at 1705 (by decide +kernel), xw_at 70 (by decide +kernel)⟩
theorem l_Model_297 : xLv "HandOverHorseModel" 297 m_Model_tells 2 := ⟨xLk_of 1707 81 1710 (by decide +kernel), xw_at 1709 (by decide +kernel), xw_at 71 (by decide +kernel)⟩
theorem l_Model_300 : xLs "HandOverHorseModel" 300 m_Model_isSheet 1 := ⟨xLk_of 1719 81 1721 (by decide +kernel), xw_at 1720 (by decide +kernel)⟩
theorem l_Model_303 : xLv "HandOverHorseModel" 303 m_Model_whyNot 1 := ⟨xLk_of 1734 81 1737 (by decide +kernel), xw_at 1736 (by decide +kernel), xw_at 72 (by decide +kernel)⟩
theorem l_Model_306 : xLv "HandOverHorseModel" 306 m_Model_isRight 2 := ⟨xLk_of 1742 81 1745 (by decide +kernel), xw_at 1744 (by decide +kernel), xw_at 73 (by decide +kernel)⟩
theorem l_Model_309 : xLs "HandOverHorseModel" 309 m_Model_copies 2 := ⟨xLk_of 1750 81 1752 (by decide +kernel), xw_at 1751 (by decide +kernel)⟩
end
section
theorem okL_0 : pL_0.all (xpeOK "HandOverHorseLaw" code) = true := by decide +kernel
theorem okL_1 : pL_1.all (xpeOK "HandOverHorseLaw" code) = true := by decide +kernel
theorem okL_2 : pL_2.all (xpeOK "HandOverHorseLaw" code) = true := by decide +kernel
theorem okL_3 : pL_3.all (xpeOK "HandOverHorseLaw" code) = true := by decide +kernel
theorem okL_4 : pL_4.all (xpeOK "HandOverHorseLaw" code) = true := by decide +kernel
theorem okL_5 : pL_5.all (xpeOK "HandOverHorseLaw" code) = true := by decide +kernel
theorem okL_6 : pL_6.all (xpeOK "HandOverHorseLaw" code) = true := by decide +kernel
end
section
theorem okL_7 : pL_7.all (xpeOK "HandOverHorseLaw" code) = true := by decide +kernel
theorem okL_8 : pL_8.all (xpeOK "HandOverHorseLaw" code) = true := by decide +kernel
theorem okL_9 : pL_9.all (xpeOK "HandOverHorseLaw" code) = true := by decide +kernel
theorem okL_10 : pL_10.all (xpeOK "HandOverHorseLaw" code) = true := by decide +kernel
theorem okL_11 : pL_11.all (xpeOK "HandOverHorseLaw" code) = true := by decide +kernel
theorem okL_12 : pL_12.all (xpeOK "HandOverHorseLaw" code) = true := by decide +kernel
theorem okL_13 : pL_13.all (xpeOK "HandOverHorseLaw" code) = true := by decide +kernel
end
section
theorem okL_14 : pL_14.all (xpeOK "HandOverHorseLaw" code) = true := by decide +kernel
theorem okL_15 : pL_15.all (xpeOK "HandOverHorseLaw" code) = true := by decide +kernel
theorem okL_16 : pL_16.all (xpeOK "HandOverHorseLaw" code) = true := by decide +kernel
theorem okL_17 : pL_17.all (xpeOK "HandOverHorseLaw" code) = true := by decide +kernel
theorem okL_18 : pL_18.all (xpeOK "HandOverHorseLaw" code) = true := by decide +kernel
theorem okL_19 : pL_19.all (xpeOK "HandOverHorseLaw" code) = true := by decide +kernel
theorem okL_20 : pL_20.all (xpeOK "HandOverHorseLaw" code) = true := by decide +kernel
end
section
theorem ok_Law_law : xpOK m_Law_law = true := by
  show List.all p_Law_law (xpeOK "HandOverHorseLaw" code) = true
  unfold p_Law_law
  simp only [List.all_append, okL_0, okL_1, okL_2, okL_3, okL_4, okL_5, okL_6, okL_7, okL_8, okL_9, okL_10, okL_11, okL_12, okL_13, okL_14, okL_15, okL_16, okL_17, okL_18, okL_19, okL_20, Bool.and_self]
theorem l_Law_7 : Cond.classLink "HandOverHorseLaw" 7 (xcn 11) ∈ xw ∧ Cond.instantiable (xcn 11) (xN 11) ∈ xw ∧ Cond.initialized (xcn 11) ∈ xw := ⟨xw_at 96 (by decide +kernel), xw_at 97 (by decide +kernel), xw_at 75 (by decide +kernel)⟩
theorem l_Law_9 : xLi "HandOverHorseLaw" 9 m_H_init 0 := ⟨xLk_of 98 75 100 (by decide +kernel), xw_at 99 (by decide +kernel), rfl⟩
theorem l_Law_10 : Cond.classLink "HandOverHorseLaw" 10 (xcn 12) ∈ xw ∧ Cond.instantiable (xcn 12) (xN 12) ∈ xw ∧ Cond.initialized (xcn 12) ∈ xw := ⟨xw_at 1280 (by decide +kernel), xw_at 1281 (by decide +kernel), xw_at 81 (by decide +kernel)⟩
theorem l_Law_12 : xLi "HandOverHorseLaw" 12 m_Model_init 0 := ⟨xLk_of 1282 81 1284 (by decide +kernel), xw_at 1283 (by decide +kernel), rfl⟩
theorem l_Law_13 : xLv "HandOverHorseLaw" 13 m_H_stroke 3 := ⟨xLk_of 355 75 358 (by decide +kernel), xw_at 356 (by decide +kernel), xw_at 357 (by decide +kernel)⟩
theorem l_Law_17 : xLv "HandOverHorseLaw" 17 m_Model_stroke 3 := ⟨xLk_of 1443 81 1446 (by decide +kernel), xw_at 1444 (by decide +kernel), xw_at 1445 (by decide +kernel)⟩
theorem l_Law_18 : xLv "HandOverHorseLaw" 18 m_H_ofStroke 2 := ⟨xLk_of 458 75 461 (by decide +kernel), xw_at 459 (by decide +kernel), xw_at 460 (by decide +kernel)⟩
theorem l_Law_22 : xLv "HandOverHorseLaw" 22 m_Model_ofStroke 2 := ⟨xLk_of 1454 81 1457 (by decide +kernel), xw_at 1455 (by decide +kernel), xw_at 1456 (by decide +kernel)⟩
theorem l_Law_23 : xLv "HandOverHorseLaw" 23 m_H_change 3 := ⟨xLk_of 610 75 613 (by decide +kernel), xw_at 611 (by decide +kernel), xw_at 612 (by decide +kernel)⟩
theorem l_Law_26 : xLv "HandOverHorseLaw" 26 m_Model_change 3 := ⟨xLk_of 1486 81 1489 (by decide +kernel), xw_at 1487 (by decide +kernel), xw_at 1488 (by decide +kernel)⟩
theorem l_Law_27 : xLv "HandOverHorseLaw" 27 m_H_become 2 := ⟨xLk_of 627 75 630 (by decide +kernel), xw_at 628 (by decide +kernel), xw_at 629 (by decide +kernel)⟩
theorem l_Law_30 : xLv "HandOverHorseLaw" 30 m_Model_become 2 := ⟨xLk_of 1493 81 1496 (by decide +kernel), xw_at 1494 (by decide +kernel), xw_at 1495 (by decide +kernel)⟩
theorem l_Law_31 : xLv "HandOverHorseLaw" 31 m_H_as 2 := ⟨xLk_of 646 75 649 (by decide +kernel), xw_at 647 (by decide +kernel), xw_at 648 (by decide +kernel)⟩
theorem l_Law_34 : xLv "HandOverHorseLaw" 34 m_Model_as 2 := ⟨xLk_of 1497 81 1500 (by decide +kernel), xw_at 1498 (by decide +kernel), xw_at 1499 (by decide +kernel)⟩
theorem l_Law_35 : xLv "HandOverHorseLaw" 35 m_H_over 3 := ⟨xLk_of 679 75 682 (by decide +kernel), xw_at 680 (by decide +kernel), xw_at 681 (by decide +kernel)⟩
theorem l_Law_38 : xLv "HandOverHorseLaw" 38 m_Model_over 3 := ⟨xLk_of 1505 81 1508 (by decide +kernel), xw_at 1506 (by decide +kernel), xw_at 1507 (by decide +kernel)⟩
theorem l_Law_39 : xLv "HandOverHorseLaw" 39 m_H_ofLook 2 := ⟨xLk_of 696 75 699 (by decide +kernel), xw_at 697 (by decide +kernel), xw_at 698 (by decide +kernel)⟩
theorem l_Law_42 : xLv "HandOverHorseLaw" 42 m_Model_ofLook 2 := ⟨xLk_of 1517 81 1520 (by decide +kernel), xw_at 1518 (by decide +kernel), xw_at 1519 (by decide +kernel)⟩
theorem l_Law_43 : xLv "HandOverHorseLaw" 43 m_H_see 2 := ⟨xLk_of 708 75 711 (by decide +kernel), xw_at 709 (by decide +kernel), xw_at 710 (by decide +kernel)⟩
theorem l_Law_46 : xLv "HandOverHorseLaw" 46 m_Model_see 2 := ⟨xLk_of 1534 81 1537 (by decide +kernel), xw_at 1535 (by decide +kernel), xw_at 1536 (by decide +kernel)⟩
theorem l_Law_47 : xLv "HandOverHorseLaw" 47 m_H_forget 0 := ⟨xLk_of 712 75 715 (by decide +kernel), xw_at 713 (by decide +kernel), xw_at 714 (by decide +kernel)⟩
theorem l_Law_51 : xLv "HandOverHorseLaw" 51 m_Model_forget 0 := ⟨xLk_of 1538 81 1541 (by decide +kernel), xw_at 1539 (by decide +kernel), xw_at 1540 (by decide +kernel)⟩
theorem l_Law_54 : xLv "HandOverHorseLaw" 54 m_H_feed 2 := ⟨xLk_of 716 75 719 (by decide +kernel), xw_at 717 (by decide +kernel), xw_at 718 (by decide +kernel)⟩
theorem l_Law_58 : xLv "HandOverHorseLaw" 58 m_Model_feed 2 := ⟨xLk_of 1368 81 1371 (by decide +kernel), xw_at 1369 (by decide +kernel), xw_at 1370 (by decide +kernel)⟩
theorem l_Law_59 : xLv "HandOverHorseLaw" 59 m_H_text 1 := ⟨xLk_of 725 75 728 (by decide +kernel), xw_at 726 (by decide +kernel), xw_at 727 (by decide +kernel)⟩
theorem l_Law_63 : xLv "HandOverHorseLaw" 63 m_Model_text 1 := ⟨xLk_of 1382 81 1385 (by decide +kernel), xw_at 1383 (by decide +kernel), xw_at 1384 (by decide +kernel)⟩
theorem l_Law_64 : xLv "HandOverHorseLaw" 64 m_H_law 5 := ⟨xLk_of 859 75 862 (by decide +kernel), xw_at 860 (by decide +kernel), xw_at 861 (by decide +kernel)⟩
theorem l_Law_68 : xLv "HandOverHorseLaw" 68 m_Model_law 5 := ⟨xLk_of 1432 81 1435 (by decide +kernel), xw_at 1433 (by decide +kernel), xw_at 1434 (by decide +kernel)⟩
theorem l_Law_69 : xLv "HandOverHorseLaw" 69 m_H_orders 0 := ⟨xLk_of 864 75 867 (by decide +kernel), xw_at 865 (by decide +kernel), xw_at 866 (by decide +kernel)⟩
theorem l_Law_72 : xLv "HandOverHorseLaw" 72 m_Model_orders 0 := ⟨xLk_of 1542 81 1545 (by decide +kernel), xw_at 1543 (by decide +kernel), xw_at 1544 (by decide +kernel)⟩
theorem l_Law_73 : xLv "HandOverHorseLaw" 73 m_H_sure 2 := ⟨xLk_of 886 75 889 (by decide +kernel), xw_at 887 (by decide +kernel), xw_at 888 (by decide +kernel)⟩
theorem l_Law_76 : xLv "HandOverHorseLaw" 76 m_Model_sure 2 := ⟨xLk_of 1566 81 1569 (by decide +kernel), xw_at 1567 (by decide +kernel), xw_at 1568 (by decide +kernel)⟩
theorem l_Law_77 : xLv "HandOverHorseLaw" 77 m_H_wrong 1 := ⟨xLk_of 895 75 898 (by decide +kernel), xw_at 896 (by decide +kernel), xw_at 897 (by decide +kernel)⟩
theorem l_Law_80 : xLv "HandOverHorseLaw" 80 m_Model_wrong_ 1 := ⟨xLk_of 1570 81 1573 (by decide +kernel), xw_at 1571 (by decide +kernel), xw_at 1572 (by decide +kernel)⟩
theorem l_Law_81 : xLv "HandOverHorseLaw" 81 m_H_best 1 := ⟨xLk_of 926 75 929 (by decide +kernel), xw_at 927 (by decide +kernel), xw_at 928 (by decide +kernel)⟩
theorem l_Law_84 : xLv "HandOverHorseLaw" 84 m_Model_best 1 := ⟨xLk_of 1587 81 1590 (by decide +kernel), xw_at 1588 (by decide +kernel), xw_at 1589 (by decide +kernel)⟩
theorem l_Law_85 : xLv "HandOverHorseLaw" 85 m_H_span 2 := ⟨xLk_of 930 75 933 (by decide +kernel), xw_at 931 (by decide +kernel), xw_at 932 (by decide +kernel)⟩
theorem l_Law_88 : xLv "HandOverHorseLaw" 88 m_Model_span 2 := ⟨xLk_of 1591 81 1594 (by decide +kernel), xw_at 1592 (by decide +kernel), xw_at 1593 (by decide +kernel)⟩
theorem l_Law_89 : xLv "HandOverHorseLaw" 89 m_H_test 2 := ⟨xLk_of 952 75 955 (by decide +kernel), xw_at 953 (by decide +kernel), xw_at 954 (by decide +kernel)⟩
theorem l_Law_92 : xLv "HandOverHorseLaw" 92 m_Model_test 2 := ⟨xLk_of 1603 81 1606 (by decide +kernel), xw_at 1604 (by decide +kernel), xw_at 1605 (by decide +kernel)⟩
theorem l_Law_93 : xLv "HandOverHorseLaw" 93 m_H_next 1 := ⟨xLk_of 965 75 968 (by decide +kernel), xw_at 966 (by decide +kernel), xw_at 967 (by decide +kernel)⟩
theorem l_Law_96 : xLv "HandOverHorseLaw" 96 m_Model_next 1 := ⟨xLk_of 1612 81 1615 (by decide +kernel), xw_at 1613 (by decide +kernel), xw_at 1614 (by decide +kernel)⟩
theorem l_Law_97 : xLv "HandOverHorseLaw" 97 m_H_join 2 := ⟨xLk_of 979 75 982 (by decide +kernel), xw_at 980 (by decide +kernel), xw_at 981 (by decide +kernel)⟩
theorem l_Law_100 : xLv "HandOverHorseLaw" 100 m_Model_join 2 := ⟨xLk_of 1620 81 1623 (by decide +kernel), xw_at 1621 (by decide +kernel), xw_at 1622 (by decide +kernel)⟩
theorem l_Law_101 : xLv "HandOverHorseLaw" 101 m_H_joinings 1 := ⟨xLk_of 1020 75 1023 (by decide +kernel), xw_at 1021 (by decide +kernel), xw_at 1022 (by decide +kernel)⟩
theorem l_Law_104 : xLv "HandOverHorseLaw" 104 m_Model_joinings 1 := ⟨xLk_of 1638 81 1641 (by decide +kernel), xw_at 1639 (by decide +kernel), xw_at 1640 (by decide +kernel)⟩
theorem l_Law_105 : xLv "HandOverHorseLaw" 105 m_H_times 1 := ⟨xLk_of 1050 75 1053 (by decide +kernel), xw_at 1051 (by decide +kernel), xw_at 1052 (by decide +kernel)⟩
theorem l_Law_108 : xLv "HandOverHorseLaw" 108 m_Model_times 1 := ⟨xLk_of 1646 81 1649 (by decide +kernel), xw_at 1647 (by decide +kernel), xw_at 1648 (by decide +kernel)⟩
theorem l_Law_109 : xLv "HandOverHorseLaw" 109 m_H_lamp 2 := ⟨xLk_of 1075 75 1078 (by decide +kernel), xw_at 1076 (by decide +kernel), xw_at 1077 (by decide +kernel)⟩
theorem l_Law_112 : xLv "HandOverHorseLaw" 112 m_Model_lamp 2 := ⟨xLk_of 1654 81 1657 (by decide +kernel), xw_at 1655 (by decide +kernel), xw_at 1656 (by decide +kernel)⟩
theorem l_Law_113 : xLv "HandOverHorseLaw" 113 m_H_hand 1 := ⟨xLk_of 1080 75 1083 (by decide +kernel), xw_at 1081 (by decide +kernel), xw_at 1082 (by decide +kernel)⟩
theorem l_Law_116 : xLv "HandOverHorseLaw" 116 m_Model_hand 1 := ⟨xLk_of 1659 81 1662 (by decide +kernel), xw_at 1660 (by decide +kernel), xw_at 1661 (by decide +kernel)⟩
theorem l_Law_117 : xLv "HandOverHorseLaw" 117 m_H_again 0 := ⟨xLk_of 1089 75 1092 (by decide +kernel), xw_at 1090 (by decide +kernel), xw_at 1091 (by decide +kernel)⟩
theorem l_Law_120 : xLv "HandOverHorseLaw" 120 m_Model_again 0 := ⟨xLk_of 1670 81 1673 (by decide +kernel), xw_at 1671 (by decide +kernel), xw_at 1672 (by decide +kernel)⟩
theorem l_Law_121 : xLv "HandOverHorseLaw" 121 m_H_seed 1 := ⟨xLk_of 1102 75 1105 (by decide +kernel), xw_at 1103 (by decide +kernel), xw_at 1104 (by decide +kernel)⟩
theorem l_Law_124 : xLv "HandOverHorseLaw" 124 m_Model_seed 1 := ⟨xLk_of 1679 81 1682 (by decide +kernel), xw_at 1680 (by decide +kernel), xw_at 1681 (by decide +kernel)⟩
theorem l_Law_125 : xLv "HandOverHorseLaw" 125 m_H_voice 3 := ⟨xLk_of 1106 75 1109 (by decide +kernel), xw_at 1107 (by decide +kernel), xw_at 1108 (by decide +kernel)⟩
theorem l_Law_128 : xLv "HandOverHorseLaw" 128 m_Model_voice 3 := ⟨xLk_of 1683 81 1686 (by decide +kernel), xw_at 1684 (by decide +kernel), xw_at 1685 (by decide +kernel)⟩
theorem l_Law_129 : xLv "HandOverHorseLaw" 129 m_H_trace 1 := ⟨xLk_of 1201 75 1204 (by decide +kernel), xw_at 1202 (by decide +kernel), xw_at 1203 (by decide +kernel)⟩
theorem l_Law_132 : xLv "HandOverHorseLaw" 132 m_Model_trace 1 := ⟨xLk_of 1711 81 1714 (by decide +kernel), xw_at 1712 (by decide +kernel), xw_at 1713 (by decide +kernel)⟩
theorem l_Law_133 : xLv "HandOverHorseLaw" 133 m_H_sheet 3 := ⟨xLk_of 1205 75 1208 (by decide +kernel), xw_at 1206 (by decide +kernel), xw_at 1207 (by decide +kernel)⟩
theorem l_Law_136 : xLv "HandOverHorseLaw" 136 m_Model_sheet 3 := ⟨xLk_of 1715 81 1718 (by decide +kernel), xw_at 1716 (by decide +kernel), xw_at 1717 (by decide +kernel)⟩
theorem l_Law_137 : xLv "HandOverHorseLaw" 137 m_H_put 3 := ⟨xLk_of 1215 75 1218 (by decide +kernel), xw_at 1216 (by decide +kernel), xw_at 1217 (by decide +kernel)⟩
theorem l_Law_140 : xLv "HandOverHorseLaw" 140 m_Model_put 3 := ⟨xLk_of 1722 81 1725 (by decide +kernel), xw_at 1723 (by decide +kernel), xw_at 1724 (by decide +kernel)⟩
theorem l_Law_141 : xLv "HandOverHorseLaw" 141 m_H_move 5 := ⟨xLk_of 1219 75 1222 (by decide +kernel), xw_at 1220 (by decide +kernel), xw_at 1221 (by decide +kernel)⟩
theorem l_Law_144 : xLv "HandOverHorseLaw" 144 m_Model_move 5 := ⟨xLk_of 1726 81 1729 (by decide +kernel), xw_at 1727 (by decide +kernel), xw_at 1728 (by decide +kernel)⟩
theorem l_Law_145 : xLv "HandOverHorseLaw" 145 m_H_looks 1 := ⟨xLk_of 1230 75 1233 (by decide +kernel), xw_at 1231 (by decide +kernel), xw_at 1232 (by decide +kernel)⟩
theorem l_Law_148 : xLv "HandOverHorseLaw" 148 m_Model_looks 1 := ⟨xLk_of 1730 81 1733 (by decide +kernel), xw_at 1731 (by decide +kernel), xw_at 1732 (by decide +kernel)⟩
theorem l_Law_149 : xLv "HandOverHorseLaw" 149 m_H_judge 1 := ⟨xLk_of 1234 75 1237 (by decide +kernel), xw_at 1235 (by decide +kernel), xw_at 1236 (by decide +kernel)⟩
theorem l_Law_152 : xLv "HandOverHorseLaw" 152 m_Model_judge 1 := ⟨xLk_of 1738 81 1741 (by decide +kernel), xw_at 1739 (by decide +kernel), xw_at 1740 (by decide +kernel)⟩
theorem l_Law_153 : xLv "HandOverHorseLaw" 153 m_H_image 0 := ⟨xLk_of 1242 75 1245 (by decide +kernel), xw_at 1243 (by decide +kernel), xw_at 1244 (by decide +kernel)⟩
theorem l_Law_156 : xLv "HandOverHorseLaw" 156 m_Model_image 0 := ⟨xLk_of 1746 81 1749 (by decide +kernel), xw_at 1747 (by decide +kernel), xw_at 1748 (by decide +kernel)⟩
theorem l_Law_157 : xLv "HandOverHorseLaw" 157 m_H_restore 0 := ⟨xLk_of 1252 75 1255 (by decide +kernel), xw_at 1253 (by decide +kernel), xw_at 1254 (by decide +kernel)⟩
theorem l_Law_160 : xLv "HandOverHorseLaw" 160 m_Model_restore 0 := ⟨xLk_of 1753 81 1756 (by decide +kernel), xw_at 1754 (by decide +kernel), xw_at 1755 (by decide +kernel)⟩
theorem l_Law_161 : xLv "HandOverHorseLaw" 161 m_H_tell 1 := ⟨xLk_of 1256 75 1259 (by decide +kernel), xw_at 1257 (by decide +kernel), xw_at 1258 (by decide +kernel)⟩
theorem l_Law_164 : xLv "HandOverHorseLaw" 164 m_Model_tell 1 := ⟨xLk_of 1757 81 1760 (by decide +kernel), xw_at 1758 (by decide +kernel), xw_at 1759 (by decide +kernel)⟩
theorem l_Law_165 : xLv "HandOverHorseLaw" 165 m_H_check 0 := ⟨xLk_of 1260 75 1263 (by decide +kernel), xw_at 1261 (by decide +kernel), xw_at 1262 (by decide +kernel)⟩
theorem l_Law_168 : xLv "HandOverHorseLaw" 168 m_Model_check 0 := ⟨xLk_of 1761 81 1764 (by decide +kernel), xw_at 1762 (by decide +kernel), xw_at 1763 (by decide +kernel)⟩
theorem l_Law_169 : xLv "HandOverHorseLaw" 169 m_H_count 1 := ⟨xLk_of 1272 75 1275 (by decide +kernel), xw_at 1273 (by decide +kernel), xw_at 1274 (by decide +kernel)⟩
theorem l_Law_172 : xLv "HandOverHorseLaw" 172 m_Model_count 1 := ⟨xLk_of 1765 81 1768 (by decide +kernel), xw_at 1766 (by decide +kernel), xw_at 1767 (by decide +kernel)⟩
theorem l_Law_173 : xLv "HandOverHorseLaw" 173 m_H_told 1 := ⟨xLk_of 1276 75 1279 (by decide +kernel), xw_at 1277 (by decide +kernel), xw_at 1278 (by decide +kernel)⟩
theorem l_Law_176 : xLv "HandOverHorseLaw" 176 m_Model_told 1 := ⟨xLk_of 1769 81 1772 (by decide +kernel), xw_at 1770 (by decide +kernel), xw_at 1771 (by decide +kernel)⟩
end
section
/-! the places of all cells are known: 107 that the constructors make, behind them strokes made later -/
abbrev HI : Type := Nat → Nat → Int32
abbrev HC : Type := Nat × (Nat → Nat) × (Nat → Nat) × (Nat → Nat) × Nat × Nat × Nat
/-- how many cells stand behind the first 107 -/
def hm (C : HC) : Nat := C.1
/-- their classes -/
def hk (C : HC) : Nat → Nat := C.2.1
/-- the wall's strokes, the kept wall's -/
def hT (C : HC) : Nat → Nat := C.2.2.1
def hU (C : HC) : Nat → Nat := C.2.2.2.1
/-- the draft's tape and names, the script's length -/
def hdt (C : HC) : Nat := C.2.2.2.2.1
def hdn (C : HC) : Nat := C.2.2.2.2.2.1
def hL (C : HC) : Nat := C.2.2.2.2.2.2
def kK (C : HC) (r : Nat) : Nat × Nat := if r < 107 then xtab r else if r = 1000000 then (13, hL C) else if r = 1000001 then (13, 7) else (hk C r, 7)
def kP (C : HC) (r k : Nat) : Option Nat := if r = 2 then some (hT C k) else if r = 33 then some (hU C k) else if r = 26 then (if k = 4 then some (hdt C) else if k = 7 then some (hdn C) else xptab 26 k) else xptab r k
/-- the class of a stroke's cell -/
def kc (C : HC) (q : Nat) : Nat := (kK C q).1
def gS (C : HC) (q : Nat) : Bool := Nat.blt q (107 + hm C) && Nat.blt (kc C q) 7
def bnd (i : Int32) (w : Nat) : Bool := decide (0 ≤ i) && Nat.blt i.toNatClampNeg w
def grd {α : Type} (b : Bool) (x : Option α) : Option α := if b = true then x else none
def lt {α β : Type} (x : α) (f : α → β) : β := f x
/-- another draft's tape and names -/
def cD (C : HC) (t n : Nat) : HC := (hm C, hk C, hT C, hU C, t, n, hL C)
/-- a stroke of class c is made -/
def cN (C : HC) (c : Nat) : HC := (hm C + 1, (fun q => if q = 107 + hm C then c else hk C q), hT C, hU C, hdt C, hdn C, hL C)
/-- a stroke's place is taken by another -/
def cT (C : HC) (i q : Nat) : HC := (hm C, hk C, (fun j => if j = i then q else hT C j), hU C, hdt C, hdn C, hL C)
def cU (C : HC) (i q : Nat) : HC := (hm C, hk C, hT C, (fun j => if j = i then q else hU C j), hdt C, hdn C, hL C)
theorem bnd_in {i : Int32} {w : Nat} (h : bnd i w = true) : vp_in i w := by
  unfold bnd at h
  simp only [Bool.and_eq_true, decide_eq_true_eq, Nat.blt_eq] at h
  rintro (h1 | h1)
  · exact absurd h.1 (Int32.not_le.mpr h1)
  · omega
theorem gS_lt {C : HC} {q : Nat} (h : gS C q = true) : q < 107 + hm C := by
  unfold gS at h
  simp only [Bool.and_eq_true, Nat.blt_eq] at h
  exact h.1
theorem gS_k {C : HC} {q : Nat} (h : gS C q = true) : kc C q < 7 := by
  unfold gS at h
  simp only [Bool.and_eq_true, Nat.blt_eq] at h
  exact h.2
theorem kK_pair (C : HC) (q : Nat) : kK C q = (kc C q, (kK C q).2) := rfl
theorem kx_grd {α : Type} {b : Bool} {x : Option α} {r : α} {Q : Prop} (kk : b = true → x = some r → Q) : grd b x = some r → Q := by
  unfold grd
  intro h
  by_cases hb : b = true
  · rw [if_pos hb] at h; exact kk hb h
  · rw [if_neg hb] at h; cases h
theorem kx_bind {α β : Type} {x : Option α} {F : α → Option β} {b : β} {Q : Prop} (kk : ∀ p, x = some p → F p = some b → Q) : x.bind F = some b → Q := by
  intro h
  obtain ⟨p, hp, h2⟩ := Option.bind_eq_some_iff.mp h
  exact kk p hp h2
theorem kx_lt {α β : Type} {x : α} {F : α → β} {b : β} {Q : α → Prop} (kk : ∀ y, y = x → F y = b → Q y) : lt x F = b → Q x := fun h => kk x rfl h
theorem kx_lti {α β : Type} {x : α} {F : α → β} {b : β} {Q : Prop} (kk : ∀ y, x = y → F y = b → Q) : lt x F = b → Q := fun h => kk x rfl h
theorem kx_if {α : Type} {c : Prop} [Decidable c] {a b r : α} {Q : Prop} (h1 : c → a = r → Q) (h2 : ¬ c → b = r → Q) : (if c then a else b) = r → Q := by
  by_cases h : c
  · rw [if_pos h]; exact h1 h
  · rw [if_neg h]; exact h2 h
/-- the judgement over known places -/
def kW (G : xG) (X : xC) (Y : MI) (C : HC) (I : HI) (cells slots pc : Nat) (lv st : List Value) : Prop := aW G X Y (107 + hm C) (kK C) I (kP C) cells slots pc lv st
def kPo (v : Option Value) (C' : HC) (I' : HI) : xPost := fun v0 n' K' J P' => v0 = v ∧ n' = 107 + hm C' ∧ K' = kK C' ∧ J = I' ∧ P' = kP C'
/-- a method's contract: called with these, it returns v and leaves C', I' -/
def kM (G : xG) (d : Nat) (Y : MI) (as : List Value) (C : HC) (I : HI) (mc ms : Nat) (v : Option Value) (C' : HC) (I' : HI) : Prop := cM G d Y as (107 + hm C) (kK C) I (kP C) mc ms (kPo v C' I')
def xgo : Nat → MI → Nat → List Value → List Value → xO
  | 0, _, pc, lv, st => some (pc, lv, st)
  | k + 1, Y, pc, lv, st => match xstep Y pc lv st with
    | some z => xgo k Y z.1 z.2.1 z.2.2
    | none => none
section KX
variable {G : xG} {X : xC} {Y Y' : MI} {d d' mc ms mc' ms' : Nat} {C C' : HC} {I I' : HI} {cells slots pc nx r k q w : Nat} {lv st : List Value} {A : Prop}
theorem lit_lt {C : HC} {r : Nat} (h : r < 107) : r < 107 + hm C := by omega
theorem kK_lit {C : HC} {r : Nat} (h : r < 107) : kK C r = xtab r := if_pos h
theorem ax_go {n : Nat} {K : Nat → Nat × Nat} {P : Nat → Nat → Option Nat} (hX : xAmb G X Y d mc ms) (hY : xpOK Y = true) : ∀ (j pc : Nat) (lv st : List Value) (z : Nat × List Value × List Value), xgo j Y pc lv st = some z → aW G X Y n K I P cells slots z.1 z.2.1 z.2.2 → aW G X Y n K I P cells slots pc lv st := by
  intro j
  induction j with
  | zero => intro pc lv st z h kk; cases h; exact kk
  | succ j ih =>
    intro pc lv st z h kk
    unfold xgo at h
    split at h
    · next y hy => exact ax_step hX hY hy (ih _ _ _ z h kk)
    · cases h
theorem kx_go (j : Nat) {pc' : Nat} {lv' st' : List Value} (hX : xAmb G X Y d mc ms) (hY : xpOK Y = true) (hs : xgo j Y pc lv st = some (pc', lv', st')) (kk : A → kW G X Y C I cells slots pc' lv' st') : A → kW G X Y C I cells slots pc lv st :=
  fun a => ax_go hX hY j pc lv st _ hs (kk a)
/-- forget locals -/
def xsub : List Value → List Value → Prop
  | [], _ => True
  | .null :: l, [] => xsub l []
  | _ :: _, [] => False
  | a :: l, b :: m => (a = .null ∨ a = b) ∧ xsub l m
theorem xsub_get : ∀ (l m : List Value) (i : Nat), xsub l m → xget l i ≠ .null → xget l i = xget m i := by
  intro l
  induction l with
  | nil => intro m i _ h; exact absurd rfl h
  | cons a l ih =>
    intro m i hs h
    cases m with
    | nil =>
      cases a <;> simp only [xsub] at hs
      cases i with
      | zero => exact absurd rfl h
      | succ i => exact ih [] i hs h
    | cons b m =>
      have hs' : (a = .null ∨ a = b) ∧ xsub l m := by cases a <;> exact hs
      cases i with
      | zero =>
        rcases hs'.1 with rfl | rfl
        · exact absurd rfl h
        · rfl
      | succ i => exact ih m i hs'.2 h
theorem kx_weak {lv' : List Value} (h : xsub lv' lv) (kk : A → kW G X Y C I cells slots pc lv' st) : A → kW G X Y C I cells slots pc lv st := by
  intro a H locs ls hR hlo hlv
  refine kk a H locs ls hR hlo ⟨hlv.1, hlv.2.1, fun i hi => ?_⟩
  have := xsub_get _ _ i h hi
  rw [this]
  exact hlv.2.2 i (by rw [← this]; exact hi)
theorem kx_ite {α : Type} {c : Prop} [Decidable c] {a b : Nat} {e1 e2 r : α} (h1 : c → e1 = r → kW G X Y C I cells slots a lv st) (h2 : ¬ c → e2 = r → kW G X Y C I cells slots b lv st) : (if c then e1 else e2) = r → kW G X Y C I cells slots (if c then a else b) lv st := by
  by_cases h : c
  · rw [if_pos h, if_pos h]; exact h1 h
  · rw [if_neg h, if_neg h]; exact h2 h
/-- a branch whose side is known -/
theorem kx_yes {c : Prop} [Decidable c] {a b : Nat} (hc : c) (kk : A → kW G X Y C I cells slots a lv st) : A → kW G X Y C I cells slots (if c then a else b) lv st := by rw [if_pos hc]; exact kk
theorem kx_no {c : Prop} [Decidable c] {a b : Nat} (hc : ¬ c) (kk : A → kW G X Y C I cells slots b lv st) : A → kW G X Y C I cells slots (if c then a else b) lv st := by rw [if_neg hc]; exact kk
/-- a switch -/
theorem kx_sw {α : Type} {x k : Int32} {t df : Nat} {cs : List (Int32 × Nat)} {e1 e2 r : α} (h1 : x = k → e1 = r → kW G X Y C I cells slots t lv st) (h2 : ¬ x = k → e2 = r → kW G X Y C I cells slots (xtsw x cs df) lv st) : (if x = k then e1 else e2) = r → kW G X Y C I cells slots (xtsw x ((k, t) :: cs) df) lv st := by
  by_cases h : x = k
  · rw [if_pos h]; intro q; have := h1 h q; unfold xtsw; rw [if_pos h]; exact this
  · rw [if_neg h]; intro q; have := h2 h q; unfold xtsw; rw [if_neg h]; exact this
theorem kx_sw0 {x : Int32} {df : Nat} (kk : A → kW G X Y C I cells slots df lv st) : A → kW G X Y C I cells slots (xtsw x [] df) lv st := kk
theorem kx_idiv {α : Type} {x y : Int32} {e : Option α} {b : α} (hX : xAmb G X Y d mc ms) (hY : xpOK Y = true) (hs : xis Y pc xq_idiv = some nx) (kk : y ≠ 0 → e = some b → kW G X Y C I cells slots nx lv (.int (x / y) :: st)) : grd (decide (y ≠ 0)) e = some b → kW G X Y C I cells slots pc lv (.int y :: .int x :: st) :=
  kx_grd fun hb h => ax_idiv hX hY hs (of_decide_eq_true hb) (kk (of_decide_eq_true hb) h)
theorem kx_irem {α : Type} {x y : Int32} {e : Option α} {b : α} (hX : xAmb G X Y d mc ms) (hY : xpOK Y = true) (hs : xis Y pc xq_irem = some nx) (kk : y ≠ 0 → e = some b → kW G X Y C I cells slots nx lv (.int (x - x / y * y) :: st)) : grd (decide (y ≠ 0)) e = some b → kW G X Y C I cells slots pc lv (.int y :: .int x :: st) :=
  kx_grd fun hb h => ax_irem hX hY hs (of_decide_eq_true hb) (kk (of_decide_eq_true hb) h)
theorem kx_idivc {x y : Int32} (hX : xAmb G X Y d mc ms) (hY : xpOK Y = true) (hs : xis Y pc xq_idiv = some nx) (hy : ¬ y = 0) (kk : A → kW G X Y C I cells slots nx lv (.int (x / y) :: st)) : A → kW G X Y C I cells slots pc lv (.int y :: .int x :: st) := fun a => ax_idiv hX hY hs hy (kk a)
theorem kx_iremc {x y : Int32} (hX : xAmb G X Y d mc ms) (hY : xpOK Y = true) (hs : xis Y pc xq_irem = some nx) (hy : ¬ y = 0) (kk : A → kW G X Y C I cells slots nx lv (.int (x - x / y * y) :: st)) : A → kW G X Y C I cells slots pc lv (.int y :: .int x :: st) := fun a => ax_irem hX hY hs hy (kk a)
/-! fields -/
def isI (t : FieldType) : Bool := match t with | .int => true | .boolean => true | _ => false
theorem isI_or {t : FieldType} (h : isI t = true) : t = .int ∨ t = .boolean := by cases t <;> simp_all [isI]
/-- an int field of a known object -/
def qI (Y : MI) (pc r : Nat) : Option (Nat × Nat) := bif Nat.blt r 107 then (match xgf Y pc (xtab r).1 with
  | some (k, nx) => bif isI (xty (xtab r).1 k) then some (k, nx) else none
  | none => none) else none
theorem qI_some (h : qI Y pc r = some (k, nx)) : r < 107 ∧ xgf Y pc (xtab r).1 = some (k, nx) ∧ isI (xty (xtab r).1 k) = true := by
  unfold qI at h
  cases hb : Nat.blt r 107 <;> rw [hb] at h
  · cases h
  · dsimp only [cond] at h
    split at h
    · next k' nx' hg =>
      cases hi : isI (xty (xtab r).1 k') <;> rw [hi] at h
      · cases h
      · cases h; exact ⟨by simpa [Nat.blt_eq] using hb, hg, hi⟩
    · cases h
theorem kx_geti (hX : xAmb G X Y d mc ms) (hY : xpOK Y = true) (hC : Y.1.cls = xcn Y.2.2.2.2.2) (hs : qI Y pc r = some (k, nx)) (kk : A → kW G X Y C I cells slots nx lv (.int (I r k) :: st)) : A → kW G X Y C I cells slots pc lv (.ref r :: st) := by
  intro a
  obtain ⟨h1, h2, h3⟩ := qI_some hs
  exact ax_get (v := .int (I r k)) hX hY hC (lit_lt h1) (kK_lit h1) h2 (xfv_int (isI_or h3)) (kk a)
/-- a field of a known object that holds a known cell -/
def qP (Y : MI) (pc r : Nat) : Option (Nat × Nat) := bif Nat.blt r 107 && !(Nat.beq r 26) then (match xgf Y pc (xtab r).1 with
  | some (k, nx) => bif (xty (xtab r).1 k).isReference then (match xptab r k with | some q => some (q, nx) | none => none) else none
  | none => none) else none
theorem xgf_obj {c : Nat} (h : xgf Y pc c = some (k, nx)) : c < 13 := by
  obtain ⟨idx, a, cs, h1, h2⟩ := xgf_some h
  exact (xfk_ok h2).1
theorem kP_obj {C : HC} {r k : Nat} (h1 : r < 107) (hc : (xtab r).1 < 13) (h26 : r ≠ 26) : kP C r k = xptab r k := by
  unfold kP
  have : r ≠ 2 := by rintro rfl; exact absurd hc (by decide)
  have h33 : r ≠ 33 := by rintro rfl; exact absurd hc (by decide)
  rw [if_neg this, if_neg h33, if_neg h26]
theorem qP_some (h : qP Y pc r = some (q, nx)) : r < 107 ∧ r ≠ 26 ∧ ∃ k, xgf Y pc (xtab r).1 = some (k, nx) ∧ (xty (xtab r).1 k).isReference = true ∧ xptab r k = some q := by
  unfold qP at h
  cases hb : (Nat.blt r 107 && !(Nat.beq r 26)) <;> rw [hb] at h
  · cases h
  · dsimp only [cond] at h
    simp only [Bool.and_eq_true, Nat.blt_eq, Bool.not_eq_true'] at hb
    have h26 : r ≠ 26 := by rintro rfl; exact absurd hb.2 (by decide)
    split at h
    · next k' nx' hg =>
      cases hi : (xty (xtab r).1 k').isReference <;> rw [hi] at h
      · cases h
      · dsimp only at h
        split at h
        · next q' hq => cases h; exact ⟨hb.1, h26, k', hg, hi, hq⟩
        · cases h
    · cases h
theorem kx_getp (hX : xAmb G X Y d mc ms) (hY : xpOK Y = true) (hC : Y.1.cls = xcn Y.2.2.2.2.2) (hs : qP Y pc r = some (q, nx)) (kk : A → kW G X Y C I cells slots nx lv (.ref q :: st)) : A → kW G X Y C I cells slots pc lv (.ref r :: st) := by
  intro a
  obtain ⟨h1, h26, k, h2, h3, h4⟩ := qP_some hs
  exact ax_get (v := .ref q) hX hY hC (lit_lt h1) (kK_lit h1) h2 (xfv_ref h3 (by rw [kP_obj h1 (xgf_obj h2) h26]; exact h4)) (kk a)
theorem kx_getdt (hX : xAmb G X Y d mc ms) (hY : xpOK Y = true) (hC : Y.1.cls = xcn Y.2.2.2.2.2) (hs : xgf Y pc 7 = some (4, nx)) (kk : A → kW G X Y C I cells slots nx lv (.ref (hdt C) :: st)) : A → kW G X Y C I cells slots pc lv (.ref 26 :: st) := by
  intro a
  exact ax_get (r := 26) (v := .ref (hdt C)) hX hY hC (lit_lt (by decide)) (kK_lit (by decide)) hs (xfv_ref (c := 7) (k := 4) rfl rfl) (kk a)
theorem kx_getdn (hX : xAmb G X Y d mc ms) (hY : xpOK Y = true) (hC : Y.1.cls = xcn Y.2.2.2.2.2) (hs : xgf Y pc 7 = some (7, nx)) (kk : A → kW G X Y C I cells slots nx lv (.ref (hdn C) :: st)) : A → kW G X Y C I cells slots pc lv (.ref 26 :: st) := by
  intro a
  exact ax_get (r := 26) (v := .ref (hdn C)) hX hY hC (lit_lt (by decide)) (kK_lit (by decide)) hs (xfv_ref (c := 7) (k := 7) rfl rfl) (kk a)
/-- the draft's other fields -/
def qD (Y : MI) (pc : Nat) : Option (Nat × Nat) := match xgf Y pc 7 with
  | some (k, nx) => bif Nat.beq k 0 then some (27, nx) else bif Nat.beq k 1 then some (28, nx) else bif Nat.beq k 3 then some (29, nx) else none
  | none => none
theorem kx_getd (hX : xAmb G X Y d mc ms) (hY : xpOK Y = true) (hC : Y.1.cls = xcn Y.2.2.2.2.2) (hs : qD Y pc = some (q, nx)) (kk : A → kW G X Y C I cells slots nx lv (.ref q :: st)) : A → kW G X Y C I cells slots pc lv (.ref 26 :: st) := by
  intro a
  unfold qD at hs
  split at hs
  · next k nx' hg =>
    by_cases h0 : Nat.beq k 0 = true
    · rw [h0] at hs
      obtain rfl := Nat.eq_of_beq_eq_true h0
      cases hs
      exact ax_get (r := 26) (v := .ref 27) hX hY hC (lit_lt (by decide)) (kK_lit (by decide)) hg (xfv_ref (c := 7) (k := 0) rfl rfl) (kk a)
    · rw [(Bool.not_eq_true _).mp h0] at hs
      by_cases h1 : Nat.beq k 1 = true
      · rw [h1] at hs
        obtain rfl := Nat.eq_of_beq_eq_true h1
        cases hs
        exact ax_get (r := 26) (v := .ref 28) hX hY hC (lit_lt (by decide)) (kK_lit (by decide)) hg (xfv_ref (c := 7) (k := 1) rfl rfl) (kk a)
      · rw [(Bool.not_eq_true _).mp h1] at hs
        by_cases h3 : Nat.beq k 3 = true
        · rw [h3] at hs
          obtain rfl := Nat.eq_of_beq_eq_true h3
          cases hs
          exact ax_get (r := 26) (v := .ref 29) hX hY hC (lit_lt (by decide)) (kK_lit (by decide)) hg (xfv_ref (c := 7) (k := 3) rfl rfl) (kk a)
        · rw [(Bool.not_eq_true _).mp h3] at hs
          cases hs
  · cases hs
/-- a text's cells: itself, steps, values, stack -/
def isT (t : Nat) : Prop := t = 16 ∨ t = 21 ∨ t = 26 ∨ t = 47 ∨ t = 52 ∨ t = 57
theorem isT_lt {t : Nat} (h : isT t) : t < 107 := by unfold isT at h; omega
theorem isT_K {C : HC} {t : Nat} (h : isT t) : kK C t = (7, 0) := by rcases h with rfl | rfl | rfl | rfl | rfl | rfl <;> rfl
theorem isT_P {C : HC} {t k : Nat} (h : isT t) (hk : k = 0 ∨ k = 1 ∨ k = 3) : kP C t k = some (t + (if k = 3 then 3 else k + 1)) := by
  rcases h with rfl | rfl | rfl | rfl | rfl | rfl <;> rcases hk with rfl | rfl | rfl <;> rfl
theorem isT_A {C : HC} {t j : Nat} (h : isT t) (hj : j = 1 ∨ j = 2 ∨ j = 3) : kK C (t + j) = (13, 50) ∧ t + j < 107 := by
  rcases h with rfl | rfl | rfl | rfl | rfl | rfl <;> rcases hj with rfl | rfl | rfl <;> exact ⟨rfl, by decide⟩
theorem kx_getti {t : Nat} (hT : isT t) (hX : xAmb G X Y d mc ms) (hY : xpOK Y = true) (hC : Y.1.cls = xcn Y.2.2.2.2.2) (hs : xgf Y pc 7 = some (k, nx)) (hi : isI (xty 7 k) = true) (kk : A → kW G X Y C I cells slots nx lv (.int (I t k) :: st)) : A → kW G X Y C I cells slots pc lv (.ref t :: st) := by
  intro a
  exact ax_get (v := .int (I t k)) hX hY hC (lit_lt (isT_lt hT)) (isT_K hT) hs (xfv_int (isI_or hi)) (kk a)
theorem kx_gettp {t : Nat} (hT : isT t) (hX : xAmb G X Y d mc ms) (hY : xpOK Y = true) (hC : Y.1.cls = xcn Y.2.2.2.2.2) (hs : xgf Y pc 7 = some (k, nx)) (hk : k = 0 ∨ k = 1 ∨ k = 3) (hj : (if k = 3 then 3 else k + 1) = q) (kk : A → kW G X Y C I cells slots nx lv (.ref (t + q) :: st)) : A → kW G X Y C I cells slots pc lv (.ref t :: st) := by
  intro a
  exact ax_get (v := .ref (t + q)) hX hY hC (lit_lt (isT_lt hT)) (isT_K hT) hs (xfv_ref (c := 7) (by rcases hk with rfl | rfl | rfl <;> rfl) (by rw [isT_P hT hk, hj])) (kk a)
/-- a stroke's field -/
def qS (Y : MI) (pc : Nat) : Option (Nat × Nat) := match xgf Y pc 0 with
  | some (k, nx) => bif (List.range 7).all (fun c => decide (xgf Y pc c = some (k, nx)) && decide (xty c k = .int) && !(xTc c k).2.2.2) then some (k, nx) else none
  | none => none
theorem qS_some (h : qS Y pc = some (k, nx)) {c : Nat} (hc : c < 7) : xgf Y pc c = some (k, nx) ∧ xty c k = .int ∧ (xTc c k).2.2.2 = false := by
  unfold qS at h
  split at h
  · next k' nx' hg =>
    cases hb : (List.range 7).all (fun c => decide (xgf Y pc c = some (k', nx')) && decide (xty c k' = .int) && !(xTc c k').2.2.2) <;> rw [hb] at h
    · cases h
    · cases h
      have := List.all_eq_true.mp hb c (List.mem_range.mpr hc)
      simpa [and_assoc] using this
  · cases h
theorem kx_gets (hq : gS C q = true) (hX : xAmb G X Y d mc ms) (hY : xpOK Y = true) (hC : Y.1.cls = xcn Y.2.2.2.2.2) (hs : qS Y pc = some (k, nx)) (kk : A → kW G X Y C I cells slots nx lv (.int (I q k) :: st)) : A → kW G X Y C I cells slots pc lv (.ref q :: st) := by
  intro a
  obtain ⟨h1, h2, -⟩ := qS_some hs (gS_k hq)
  exact ax_get (v := .int (I q k)) hX hY hC (gS_lt hq) (kK_pair C q) h1 (xfv_int (Or.inl h2)) (kk a)
def qSp (Y : MI) (pc : Nat) : Option (Nat × Nat) := match xpf Y pc 0 with
  | some (k, nx) => bif (List.range 7).all (fun c => decide (xpf Y pc c = some (k, nx)) && decide (xty c k = .int) && !(xTc c k).2.2.2) then some (k, nx) else none
  | none => none
theorem qSp_some (h : qSp Y pc = some (k, nx)) {c : Nat} (hc : c < 7) : xpf Y pc c = some (k, nx) ∧ xty c k = .int ∧ (xTc c k).2.2.2 = false := by
  unfold qSp at h
  split at h
  · next k' nx' hg =>
    cases hb : (List.range 7).all (fun c => decide (xpf Y pc c = some (k', nx')) && decide (xty c k' = .int) && !(xTc c k').2.2.2) <;> rw [hb] at h
    · cases h
    · cases h
      have := List.all_eq_true.mp hb c (List.mem_range.mpr hc)
      simpa [and_assoc] using this
  · cases h
theorem kx_puts {x : Int32} (hq : gS C q = true) (hX : xAmb G X Y d mc ms) (hY : xpOK Y = true) (hC : Y.1.cls = xcn Y.2.2.2.2.2) (hs : qSp Y pc = some (k, nx)) (kk : A → kW G X Y C (xu I q k x) cells slots nx lv st) : A → kW G X Y C I cells slots pc lv (.int x :: .ref q :: st) := by
  intro a
  obtain ⟨h1, h2, h3⟩ := qSp_some hs (gS_k hq)
  exact ax_puti hX hY hC (gS_lt hq) (kK_pair C q) h1 h3 (Or.inl h2) (kk a)
def qIp (Y : MI) (pc r : Nat) : Option (Nat × Nat) := bif Nat.blt r 107 then (match xpf Y pc (xtab r).1 with
  | some (k, nx) => bif !(xTc (xtab r).1 k).2.2.2 then some (k, nx) else none
  | none => none) else none
theorem qIp_some (h : qIp Y pc r = some (k, nx)) : r < 107 ∧ xpf Y pc (xtab r).1 = some (k, nx) ∧ (xTc (xtab r).1 k).2.2.2 = false := by
  unfold qIp at h
  cases hb : Nat.blt r 107 <;> rw [hb] at h
  · cases h
  · dsimp only [cond] at h
    split at h
    · next k' nx' hg =>
      cases hi : (xTc (xtab r).1 k').2.2.2 <;> rw [hi] at h
      · cases h; exact ⟨by simpa [Nat.blt_eq] using hb, hg, hi⟩
      · cases h
    · cases h
theorem kx_puti {x : Int32} (hX : xAmb G X Y d mc ms) (hY : xpOK Y = true) (hC : Y.1.cls = xcn Y.2.2.2.2.2) (hs : qIp Y pc r = some (k, nx)) (ht : xty (xtab r).1 k = .int) (kk : A → kW G X Y C (xu I r k x) cells slots nx lv st) : A → kW G X Y C I cells slots pc lv (.int x :: .ref r :: st) := by
  intro a
  obtain ⟨h1, h2, h3⟩ := qIp_some hs
  exact ax_puti hX hY hC (lit_lt h1) (kK_lit h1) h2 h3 (Or.inl ht) (kk a)
theorem kx_putz {x : Int32} (hX : xAmb G X Y d mc ms) (hY : xpOK Y = true) (hC : Y.1.cls = xcn Y.2.2.2.2.2) (hs : qIp Y pc r = some (k, nx)) (ht : xty (xtab r).1 k = .boolean) (hx : x = 0 ∨ x = 1) (kk : A → kW G X Y C (xu I r k x) cells slots nx lv st) : A → kW G X Y C I cells slots pc lv (.int x :: .ref r :: st) := by
  intro a
  obtain ⟨h1, h2, h3⟩ := qIp_some hs
  exact ax_puti hX hY hC (lit_lt h1) (kK_lit h1) h2 h3 (Or.inr ⟨ht, hx⟩) (kk a)
theorem kx_putti {t : Nat} {x : Int32} (hT : isT t) (hX : xAmb G X Y d mc ms) (hY : xpOK Y = true) (hC : Y.1.cls = xcn Y.2.2.2.2.2) (hs : xpf Y pc 7 = some (k, nx)) (hf : (xTc 7 k).2.2.2 = false) (ht : xty 7 k = .int) (kk : A → kW G X Y C (xu I t k x) cells slots nx lv st) : A → kW G X Y C I cells slots pc lv (.int x :: .ref t :: st) := by
  intro a
  exact ax_puti hX hY hC (lit_lt (isT_lt hT)) (isT_K hT) hs hf (Or.inl ht) (kk a)
/-! arrays at known cells -/
def qA (Y : MI) (pc r c : Nat) (f : Instr → Bool) : Option (Nat × Nat) := bif Nat.blt r 107 && Nat.beq (xtab r).1 c then (match xis Y pc f with | some nx => some ((xtab r).2, nx) | none => none) else none
theorem qA_some {c : Nat} {f : Instr → Bool} (h : qA Y pc r c f = some (w, nx)) : r < 107 + hm C ∧ kK C r = (c, w) ∧ xis Y pc f = some nx := by
  unfold qA at h
  cases hb : (Nat.blt r 107 && Nat.beq (xtab r).1 c) <;> rw [hb] at h
  · cases h
  · simp only [Bool.and_eq_true, Nat.blt_eq] at hb
    dsimp only [cond] at h
    split at h
    · next nx' hx =>
      cases h
      exact ⟨lit_lt hb.1, by rw [kK_lit hb.1, ← Nat.eq_of_beq_eq_true hb.2], hx⟩
    · cases h
theorem kx_iald {α : Type} {i : Int32} {e : Option α} {b : α} (hX : xAmb G X Y d mc ms) (hY : xpOK Y = true) (hs : qA Y pc r 13 xq_iald = some (w, nx)) (kk : bnd i w = true → e = some b → kW G X Y C I cells slots nx lv (.int (I r i.toNatClampNeg) :: st)) : grd (bnd i w) e = some b → kW G X Y C I cells slots pc lv (.int i :: .ref r :: st) :=
  kx_grd fun hb h => ax_iald hX hY (qA_some hs).1 (qA_some hs).2.1 (qA_some (C := C) hs).2.2 (bnd_in hb) (kk hb h)
theorem kx_ialdc {i : Int32} (hX : xAmb G X Y d mc ms) (hY : xpOK Y = true) (hs : qA Y pc r 13 xq_iald = some (w, nx)) (hb : bnd i w = true) (hi : i.toNatClampNeg = k) (kk : A → kW G X Y C I cells slots nx lv (.int (I r k) :: st)) : A → kW G X Y C I cells slots pc lv (.int i :: .ref r :: st) :=
  fun a => ax_iald hX hY (qA_some hs).1 (qA_some hs).2.1 (qA_some (C := C) hs).2.2 (bnd_in hb) (by rw [hi]; exact kk a)
theorem kx_bald {α : Type} {i : Int32} {e : Option α} {b : α} (hX : xAmb G X Y d mc ms) (hY : xpOK Y = true) (hs : qA Y pc r 14 xq_bald = some (w, nx)) (kk : bnd i w = true → e = some b → kW G X Y C I cells slots nx lv (.int (I r i.toNatClampNeg) :: st)) : grd (bnd i w) e = some b → kW G X Y C I cells slots pc lv (.int i :: .ref r :: st) :=
  kx_grd fun hb h => ax_bald hX hY (qA_some hs).1 (qA_some hs).2.1 (qA_some (C := C) hs).2.2 (bnd_in hb) (kk hb h)
theorem kx_iast {α : Type} {i x : Int32} {e : Option α} {b : α} (hX : xAmb G X Y d mc ms) (hY : xpOK Y = true) (hs : qA Y pc r 13 xq_iast = some (w, nx)) (kk : bnd i w = true → e = some b → kW G X Y C (xu I r i.toNatClampNeg x) cells slots nx lv st) : grd (bnd i w) e = some b → kW G X Y C I cells slots pc lv (.int x :: .int i :: .ref r :: st) :=
  kx_grd fun hb h => ax_iast hX hY (qA_some hs).1 (qA_some hs).2.1 (qA_some (C := C) hs).2.2 (bnd_in hb) (kk hb h)
theorem kx_iastc {i x : Int32} (hX : xAmb G X Y d mc ms) (hY : xpOK Y = true) (hs : qA Y pc r 13 xq_iast = some (w, nx)) (hb : bnd i w = true) (hi : i.toNatClampNeg = k) (kk : A → kW G X Y C (xu I r k x) cells slots nx lv st) : A → kW G X Y C I cells slots pc lv (.int x :: .int i :: .ref r :: st) :=
  fun a => ax_iast hX hY (qA_some hs).1 (qA_some hs).2.1 (qA_some (C := C) hs).2.2 (bnd_in hb) (by rw [hi]; exact kk a)
theorem nar01 {x : Int32} (h : x = 0 ∨ x = 1) : vp_nar .boolean x = x := by rcases h with rfl | rfl <;> rfl
theorem kx_bast {α : Type} {i x : Int32} {e : Option α} {b : α} (hX : xAmb G X Y d mc ms) (hY : xpOK Y = true) (hs : qA Y pc r 14 xq_bast = some (w, nx)) (hx : x = 0 ∨ x = 1) (kk : bnd i w = true → e = some b → kW G X Y C (xu I r i.toNatClampNeg x) cells slots nx lv st) : grd (bnd i w) e = some b → kW G X Y C I cells slots pc lv (.int x :: .int i :: .ref r :: st) :=
  kx_grd fun hb h => ax_bast hX hY (qA_some hs).1 (qA_some hs).2.1 (qA_some (C := C) hs).2.2 (bnd_in hb) (by rw [nar01 hx]; exact kk hb h)
theorem kx_bastc {i x : Int32} (hX : xAmb G X Y d mc ms) (hY : xpOK Y = true) (hs : qA Y pc r 14 xq_bast = some (w, nx)) (hx : x = 0 ∨ x = 1) (hb : bnd i w = true) (hi : i.toNatClampNeg = k) (kk : A → kW G X Y C (xu I r k x) cells slots nx lv st) : A → kW G X Y C I cells slots pc lv (.int x :: .int i :: .ref r :: st) :=
  fun a => ax_bast hX hY (qA_some hs).1 (qA_some hs).2.1 (qA_some (C := C) hs).2.2 (bnd_in hb) (by rw [nar01 hx, hi]; exact kk a)
theorem kx_alen (hX : xAmb G X Y d mc ms) (hY : xpOK Y = true) (hs : qA Y pc r 13 xq_alen = some (w, nx)) {y : Int32} (hy : nI w = y) (kk : A → kW G X Y C I cells slots nx lv (.int y :: st)) : A → kW G X Y C I cells slots pc lv (.ref r :: st) :=
  fun a => ax_alen hX hY (qA_some hs).1 (qA_some hs).2.1 (Or.inl rfl) (qA_some (C := C) hs).2.2 (by rw [hy]; exact kk a)
/-! arrays at cells that are known by their kind alone: hk says K q = (13, w) -/
def kA (C : HC) (q w : Nat) : Prop := q < 107 + hm C ∧ kK C q = (13, w)
theorem kx_qald {α : Type} {i : Int32} {e : Option α} {b : α} (hq : kA C q w) (hX : xAmb G X Y d mc ms) (hY : xpOK Y = true) (hs : xis Y pc xq_iald = some nx) (kk : bnd i w = true → e = some b → kW G X Y C I cells slots nx lv (.int (I q i.toNatClampNeg) :: st)) : grd (bnd i w) e = some b → kW G X Y C I cells slots pc lv (.int i :: .ref q :: st) :=
  kx_grd fun hb h => ax_iald hX hY hq.1 hq.2 hs (bnd_in hb) (kk hb h)
theorem kx_qaldc {i : Int32} (hq : kA C q w) (hX : xAmb G X Y d mc ms) (hY : xpOK Y = true) (hs : xis Y pc xq_iald = some nx) (hb : bnd i w = true) (hi : i.toNatClampNeg = k) (kk : A → kW G X Y C I cells slots nx lv (.int (I q k) :: st)) : A → kW G X Y C I cells slots pc lv (.int i :: .ref q :: st) :=
  fun a => ax_iald hX hY hq.1 hq.2 hs (bnd_in hb) (by rw [hi]; exact kk a)
theorem kx_qast {α : Type} {i x : Int32} {e : Option α} {b : α} (hq : kA C q w) (hX : xAmb G X Y d mc ms) (hY : xpOK Y = true) (hs : xis Y pc xq_iast = some nx) (kk : bnd i w = true → e = some b → kW G X Y C (xu I q i.toNatClampNeg x) cells slots nx lv st) : grd (bnd i w) e = some b → kW G X Y C I cells slots pc lv (.int x :: .int i :: .ref q :: st) :=
  kx_grd fun hb h => ax_iast hX hY hq.1 hq.2 hs (bnd_in hb) (kk hb h)
theorem kx_qlen (hq : kA C q w) (hX : xAmb G X Y d mc ms) (hY : xpOK Y = true) (hs : xis Y pc xq_alen = some nx) {y : Int32} (hy : nI w = y) (kk : A → kW G X Y C I cells slots nx lv (.int y :: st)) : A → kW G X Y C I cells slots pc lv (.ref q :: st) :=
  fun a => ax_alen hX hY hq.1 hq.2 (Or.inl rfl) hs (by rw [hy]; exact kk a)
theorem isT_kA {t j : Nat} (h : isT t) (hj : j = 1 ∨ j = 2 ∨ j = 3) : kA C (t + j) 50 := ⟨lit_lt (isT_A (C := C) h hj).2, (isT_A h hj).1⟩
theorem sh_kA {s : Nat} (h : s < 4) : kA C (80 + s) 40 := by
  rcases (show s = 0 ∨ s = 1 ∨ s = 2 ∨ s = 3 by omega) with rfl | rfl | rfl | rfl <;> exact ⟨lit_lt (by decide), rfl⟩
/-- the old arrays: the script, MOST_OF_PART -/
theorem kx_oald {α : Type} {j : Nat} {i : Int32} {e : Option α} {b : α} (hj : j < 2) (hk : (kK C (1000000 + j)).2 = w) (hX : xAmb G X Y d mc ms) (hY : xpOK Y = true) (hs : xis Y pc xq_iald = some nx) (kk : bnd i w = true → e = some b → kW G X Y C I cells slots nx lv (.int (I (1000000 + j) i.toNatClampNeg) :: st)) : grd (bnd i w) e = some b → kW G X Y C I cells slots pc lv (.int i :: .ref (1000000 + j) :: st) :=
  kx_grd fun hb h => ax_oald hX hY hj hk hs (bnd_in hb) (kk hb h)
theorem kx_oaldk {j : Nat} {i : Int32} (hb : bnd i w = true) (hj : j < 2) (hk : (kK C (1000000 + j)).2 = w) (hX : xAmb G X Y d mc ms) (hY : xpOK Y = true) (hs : xis Y pc xq_iald = some nx) (kk : A → kW G X Y C I cells slots nx lv (.int (I (1000000 + j) i.toNatClampNeg) :: st)) : A → kW G X Y C I cells slots pc lv (.int i :: .ref (1000000 + j) :: st) :=
  fun z => ax_oald hX hY hj hk hs (bnd_in hb) (kk z)
theorem kx_baldk {i : Int32} (hb : bnd i w = true) (hX : xAmb G X Y d mc ms) (hY : xpOK Y = true) (hs : qA Y pc r 14 xq_bald = some (w, nx)) (kk : A → kW G X Y C I cells slots nx lv (.int (I r i.toNatClampNeg) :: st)) : A → kW G X Y C I cells slots pc lv (.int i :: .ref r :: st) :=
  fun z => ax_bald hX hY (qA_some hs).1 (qA_some hs).2.1 (qA_some (C := C) hs).2.2 (bnd_in hb) (kk z)
theorem kx_qastc {i x : Int32} (hq : kA C q w) (hX : xAmb G X Y d mc ms) (hY : xpOK Y = true) (hs : xis Y pc xq_iast = some nx) (hb : bnd i w = true) (hi : i.toNatClampNeg = k) (kk : A → kW G X Y C (xu I q k x) cells slots nx lv st) : A → kW G X Y C I cells slots pc lv (.int x :: .int i :: .ref q :: st) :=
  fun z => ax_iast hX hY hq.1 hq.2 hs (bnd_in hb) (by rw [hi]; exact kk z)
theorem kx_olen {j : Nat} (hj : j < 2) (hk : (kK C (1000000 + j)).2 = w) (hX : xAmb G X Y d mc ms) (hY : xpOK Y = true) (hs : xis Y pc xq_alen = some nx) {y : Int32} (hy : nI w = y) (kk : A → kW G X Y C I cells slots nx lv (.int y :: st)) : A → kW G X Y C I cells slots pc lv (.ref (1000000 + j) :: st) :=
  fun a => ax_olen hX hY hj hk hs (by rw [hy]; exact kk a)
/-- arrays of references -/
theorem kx_aaT {α : Type} {i : Int32} {e : Option α} {b : α} (hX : xAmb G X Y d mc ms) (hY : xpOK Y = true) (hs : xis Y pc xq_aald = some nx) (kk : bnd i 8 = true → gS C (hT C i.toNatClampNeg) = true → e = some b → kW G X Y C I cells slots nx lv (.ref (hT C i.toNatClampNeg) :: st)) : grd (bnd i 8 && gS C (hT C i.toNatClampNeg)) e = some b → kW G X Y C I cells slots pc lv (.int i :: .ref 2 :: st) :=
  kx_grd fun hb h => by
    rw [Bool.and_eq_true] at hb
    exact ax_aald (c := 15) (w := 8) (r := 2) hX hY (lit_lt (by decide)) (kK_lit (by decide)) (by decide) hs (bnd_in hb.1) (q := hT C i.toNatClampNeg) rfl (kk hb.1 hb.2 h)
theorem kx_aaTk {i : Int32} (hb : bnd i 8 = true) (hX : xAmb G X Y d mc ms) (hY : xpOK Y = true) (hs : xis Y pc xq_aald = some nx) (kk : A → kW G X Y C I cells slots nx lv (.ref (hT C i.toNatClampNeg) :: st)) : A → kW G X Y C I cells slots pc lv (.int i :: .ref 2 :: st) :=
  fun z => ax_aald (c := 15) (w := 8) (r := 2) hX hY (lit_lt (by decide)) (kK_lit (by decide)) (by decide) hs (bnd_in hb) (q := hT C i.toNatClampNeg) rfl (kk z)
theorem kx_aaU {α : Type} {i : Int32} {e : Option α} {b : α} (hX : xAmb G X Y d mc ms) (hY : xpOK Y = true) (hs : xis Y pc xq_aald = some nx) (kk : bnd i 8 = true → gS C (hU C i.toNatClampNeg) = true → e = some b → kW G X Y C I cells slots nx lv (.ref (hU C i.toNatClampNeg) :: st)) : grd (bnd i 8 && gS C (hU C i.toNatClampNeg)) e = some b → kW G X Y C I cells slots pc lv (.int i :: .ref 33 :: st) :=
  kx_grd fun hb h => by
    rw [Bool.and_eq_true] at hb
    exact ax_aald (c := 15) (w := 8) (r := 33) hX hY (lit_lt (by decide)) (kK_lit (by decide)) (by decide) hs (bnd_in hb.1) (q := hU C i.toNatClampNeg) rfl (kk hb.1 hb.2 h)
theorem kx_aaUk {i : Int32} (hb : bnd i 8 = true) (hX : xAmb G X Y d mc ms) (hY : xpOK Y = true) (hs : xis Y pc xq_aald = some nx) (kk : A → kW G X Y C I cells slots nx lv (.ref (hU C i.toNatClampNeg) :: st)) : A → kW G X Y C I cells slots pc lv (.int i :: .ref 33 :: st) :=
  fun z => ax_aald (c := 15) (w := 8) (r := 33) hX hY (lit_lt (by decide)) (kK_lit (by decide)) (by decide) hs (bnd_in hb) (q := hU C i.toNatClampNeg) rfl (kk z)
theorem bnd_lt {i : Int32} {w : Nat} (h : bnd i w = true) : i.toNatClampNeg < w := by
  unfold bnd at h
  simp only [Bool.and_eq_true, decide_eq_true_eq, Nat.blt_eq] at h
  exact h.2
theorem kx_aaX {α : Type} {i : Int32} {e : Option α} {b : α} (hX : xAmb G X Y d mc ms) (hY : xpOK Y = true) (hs : xis Y pc xq_aald = some nx) (hr : r = 15 ∨ r = 46) (kk : bnd i 2 = true → isT (r + 1 + 5 * i.toNatClampNeg) → e = some b → kW G X Y C I cells slots nx lv (.ref (r + 1 + 5 * i.toNatClampNeg) :: st)) : grd (bnd i 2) e = some b → kW G X Y C I cells slots pc lv (.int i :: .ref r :: st) :=
  kx_grd fun hb h => by
    have hl := bnd_lt hb
    have h1 : r < 107 := by omega
    have h2 : kK C r = (16, 2) := by rcases hr with rfl | rfl <;> rfl
    have h3 : kP C r i.toNatClampNeg = some (r + 1 + 5 * i.toNatClampNeg) := by
      rcases (show i.toNatClampNeg = 0 ∨ i.toNatClampNeg = 1 by omega) with h | h <;> rw [h] <;> rcases hr with rfl | rfl <;> rfl
    have h4 : isT (r + 1 + 5 * i.toNatClampNeg) := by unfold isT; omega
    exact ax_aald (c := 16) (w := 2) hX hY (lit_lt h1) h2 (by decide) hs (bnd_in hb) h3 (kk hb h4 h)
theorem kx_aaXc {i : Int32} (hX : xAmb G X Y d mc ms) (hY : xpOK Y = true) (hs : xis Y pc xq_aald = some nx) (hr : r = 15 ∨ r = 46) (hb : bnd i 2 = true) (hq : r + 1 + 5 * i.toNatClampNeg = q) (kk : A → kW G X Y C I cells slots nx lv (.ref q :: st)) : A → kW G X Y C I cells slots pc lv (.int i :: .ref r :: st) := by
  intro a
  refine kx_aaX (α := Unit) (e := some ()) (b := ()) hX hY hs hr (fun _ _ _ => ?_) (by unfold grd; rw [if_pos hb])
  rw [hq]; exact kk a
theorem kx_aaG {α : Type} {i : Int32} {e : Option α} {b : α} (hX : xAmb G X Y d mc ms) (hY : xpOK Y = true) (hs : xis Y pc xq_aald = some nx) (kk : bnd i 4 = true → kA C (80 + i.toNatClampNeg) 40 → e = some b → kW G X Y C I cells slots nx lv (.ref (80 + i.toNatClampNeg) :: st)) : grd (bnd i 4) e = some b → kW G X Y C I cells slots pc lv (.int i :: .ref 79 :: st) :=
  kx_grd fun hb h => by
    have hl := bnd_lt hb
    have h3 : kP C 79 i.toNatClampNeg = some (80 + i.toNatClampNeg) := by
      rcases (show i.toNatClampNeg = 0 ∨ i.toNatClampNeg = 1 ∨ i.toNatClampNeg = 2 ∨ i.toNatClampNeg = 3 by omega) with h | h | h | h <;> rw [h] <;> rfl
    exact ax_aald (c := 17) (w := 4) (r := 79) hX hY (lit_lt (by decide)) (kK_lit (by decide)) (by decide) hs (bnd_in hb) h3 (kk hb (sh_kA hl) h)
theorem kx_aaGk {i : Int32} (hb : bnd i 4 = true) (hX : xAmb G X Y d mc ms) (hY : xpOK Y = true) (hs : xis Y pc xq_aald = some nx) (kk : A → kW G X Y C I cells slots nx lv (.ref (80 + i.toNatClampNeg) :: st)) : A → kW G X Y C I cells slots pc lv (.int i :: .ref 79 :: st) :=
  fun z => kx_aaG (α := Unit) (e := some ()) (b := ()) hX hY hs (fun _ _ _ => kk z) (by unfold grd; rw [if_pos hb])
/-! returns -/
variable {Post : xPost}
theorem kx_iret {v : Int32} (hX : xAmb G X Y d mc ms) (hE : xRet G X Y mc ms (kPo (some (.int v)) C I)) (hY : xpOK Y = true) (hs : xis Y pc xq_iret = some nx) (ht : Y.2.2.2.1 = some .int) (hc : cells ≤ mc ∧ slots ≤ ms) : kW G X Y C I cells slots pc lv [.int v] :=
  ax_iret hX hE hY hs (Or.inl ht) hc ⟨rfl, rfl, rfl, rfl, rfl⟩
theorem kx_zret {v : Int32} (hX : xAmb G X Y d mc ms) (hE : xRet G X Y mc ms (kPo (some (.int v)) C I)) (hY : xpOK Y = true) (hs : xis Y pc xq_iret = some nx) (ht : Y.2.2.2.1 = some .boolean) (hv : v = 0 ∨ v = 1) (hc : cells ≤ mc ∧ slots ≤ ms) : kW G X Y C I cells slots pc lv [.int v] :=
  ax_iret hX hE hY hs (Or.inr ⟨ht, hv⟩) hc ⟨rfl, rfl, rfl, rfl, rfl⟩
theorem kx_vret (hX : xAmb G X Y d mc ms) (hE : xRet G X Y mc ms (kPo none C I)) (hY : xpOK Y = true) (hs : xis Y pc xq_ret = some nx) (ht : Y.2.2.2.1 = none) (hc : cells ≤ mc ∧ slots ≤ ms) : kW G X Y C I cells slots pc lv [] :=
  ax_vret hX hE hY hs ht hc ⟨rfl, rfl, rfl, rfl, rfl⟩
theorem kx_aret {D : String} (hX : xAmb G X Y d mc ms) (hE : xRet G X Y mc ms (kPo (some (.ref q)) C I)) (hY : xpOK Y = true) (hs : xis Y pc xq_aret = some nx) (ht : Y.2.2.2.1 = some (.object D)) (hc : cells ≤ mc ∧ slots ≤ ms) : kW G X Y C I cells slots pc lv [.ref q] :=
  ax_aret hX hE hY hs ht hc ⟨rfl, rfl, rfl, rfl, rfl⟩
/-! contracts and calls -/
variable {as rest : List Value} {v : Option Value} {np idx a : Nat} {cs : List (Int32 × Nat)}
theorem kM.of (hy : plainName Y.1.cls = true) (hw : xwid as ≤ Y.2.2.1) {lv : List Value} (hlv : xargs as Y.2.2.1 = lv)
    (body : ∀ X : xC, xAmb G X Y d mc ms → xRet G X Y mc ms (kPo v C' I') → A → kW G X Y C I 0 0 0 lv []) : A → kM G d Y as C I mc ms v C' I' := by
  intro a
  subst hlv
  exact cM.of hy hw (fun X hX hE => body X hX hE a)
theorem kx_S (hX : xAmb G X Y d mc ms) (hY : xpOK Y = true) (hs : xlook Y.2.2.2.2.1 pc = some (.invokestatic idx, nx, a, cs)) (hl : xLs Y.1.cls idx Y' np) (hc : A → kM G d' Y' as C I mc' ms' v C' I') (hd : d' < d) (hn : as.length = np) (hst : st = as.reverse ++ rest) (hr8 : (rest.map fun v => v.category).sum ≤ 8) (hm : cells + mc' ≤ mc ∧ slots + ms' ≤ ms)
    (kk : A → kW G X Y C' I' (cells + mc') (slots + ms') nx lv (v.toList ++ rest)) : A → kW G X Y C I cells slots pc lv st :=
  fun a => ax_S hX hY hs hl (hc a) hd hn hst hr8 hm (fun _ _ _ _ _ ⟨h1, h2, h3, h4, h5⟩ => by rw [h1, h2, h3, h4, h5]; exact kk a)
theorem kx_SS {x : MethodName} (hX : xAmb G X Y d mc ms) (hY : xpOK Y = true) (hs : xlook Y.2.2.2.2.1 pc = some (.invokestatic idx, nx, a, cs)) (hl : xLsS Y.1.cls idx x Y' np) (hc : A → kM G d' Y' as C I mc' ms' v C' I') (hd : d' < d) (hn : as.length = np) (hst : st = as.reverse ++ rest) (hr8 : (rest.map fun v => v.category).sum ≤ 8) (hm : cells + mc' ≤ mc ∧ slots + ms' ≤ ms)
    (kk : A → kW G X Y C' I' (cells + mc') (slots + ms') nx lv (v.toList ++ rest)) : A → kW G X Y C I cells slots pc lv st :=
  fun a => ax_SS hX hY hs hl (hc a) hd hn hst hr8 hm (fun _ _ _ _ _ ⟨h1, h2, h3, h4, h5⟩ => by rw [h1, h2, h3, h4, h5]; exact kk a)
/-- a method of a known object -/
theorem kx_V (hr : r < 107) (hX : xAmb G X Y d mc ms) (hY : xpOK Y = true) (hs : xlook Y.2.2.2.2.1 pc = some (.invokevirtual idx, nx, a, cs)) (hl : xLv Y.1.cls idx Y' np) (hc13 : (xtab r).1 < 13) (hcl : Y'.1.cls = xcn (xtab r).1) (hc : A → kM G d' Y' (.ref r :: as) C I mc' ms' v C' I') (hd : d' < d) (hn : as.length = np) (hst : st = as.reverse ++ .ref r :: rest) (hr8 : (rest.map fun v => v.category).sum ≤ 8) (hm : cells + mc' ≤ mc ∧ slots + ms' ≤ ms)
    (kk : A → kW G X Y C' I' (cells + mc') (slots + ms') nx lv (v.toList ++ rest)) : A → kW G X Y C I cells slots pc lv st :=
  fun a => ax_V hX hY hs hl (lit_lt hr) (kK_lit hr) hc13 hcl (hc a) hd hn hst hr8 hm (fun _ _ _ _ _ ⟨h1, h2, h3, h4, h5⟩ => by rw [h1, h2, h3, h4, h5]; exact kk a)
/-- a method of a text -/
theorem kx_VT {t : Nat} (hT : isT t) (hX : xAmb G X Y d mc ms) (hY : xpOK Y = true) (hs : xlook Y.2.2.2.2.1 pc = some (.invokevirtual idx, nx, a, cs)) (hl : xLv Y.1.cls idx Y' np) (hcl : Y'.1.cls = xcn 7) (hc : A → kM G d' Y' (.ref t :: as) C I mc' ms' v C' I') (hd : d' < d) (hn : as.length = np) (hst : st = as.reverse ++ .ref t :: rest) (hr8 : (rest.map fun v => v.category).sum ≤ 8) (hm : cells + mc' ≤ mc ∧ slots + ms' ≤ ms)
    (kk : A → kW G X Y C' I' (cells + mc') (slots + ms') nx lv (v.toList ++ rest)) : A → kW G X Y C I cells slots pc lv st :=
  fun a => ax_V hX hY hs hl (lit_lt (isT_lt hT)) (isT_K hT) (by decide) hcl (hc a) hd hn hst hr8 hm (fun _ _ _ _ _ ⟨h1, h2, h3, h4, h5⟩ => by rw [h1, h2, h3, h4, h5]; exact kk a)
/-- a method that a stroke's class selects -/
theorem kx_U {Y0 : MI} {x : MethodName} (hq : gS C q = true) (hX : xAmb G X Y d mc ms) (hY : xpOK Y = true) (hs : xlook Y.2.2.2.2.1 pc = some (.invokevirtual idx, nx, a, cs)) (hl : xLu Y.1.cls idx (xcn (kc C q)) x Y0 Y' np) (hc : A → kM G d' Y' (.ref q :: as) C I mc' ms' v C' I') (hd : d' < d) (hn : as.length = np) (hst : st = as.reverse ++ .ref q :: rest) (hr8 : (rest.map fun v => v.category).sum ≤ 8) (hm : cells + mc' ≤ mc ∧ slots + ms' ≤ ms)
    (kk : A → kW G X Y C' I' (cells + mc') (slots + ms') nx lv (v.toList ++ rest)) : A → kW G X Y C I cells slots pc lv st :=
  fun a => ax_U hX hY hs hl (gS_lt hq) (kK_pair C q) (Nat.lt_trans (gS_k hq) (by decide)) (hc a) hd hn hst hr8 hm (fun _ _ _ _ _ ⟨h1, h2, h3, h4, h5⟩ => by rw [h1, h2, h3, h4, h5]; exact kk a)
theorem kx_SU (hq : gS C q = true) (hX : xAmb G X Y d mc ms) (hY : xpOK Y = true) (hs : xlook Y.2.2.2.2.1 pc = some (.invokespecial idx, nx, a, cs)) (hl : xLsu Y.1.cls idx Y' np) (hc : A → kM G d' Y' (.ref q :: as) C I mc' ms' v C' I') (hd : d' < d) (hn : as.length = np) (hst : st = as.reverse ++ .ref q :: rest) (hr8 : (rest.map fun v => v.category).sum ≤ 8) (hm : cells + mc' ≤ mc ∧ slots + ms' ≤ ms)
    (kk : A → kW G X Y C' I' (cells + mc') (slots + ms') nx lv (v.toList ++ rest)) : A → kW G X Y C I cells slots pc lv st :=
  fun a => ax_SU hX hY hs hl (gS_lt hq) (kK_pair C q) (Nat.lt_trans (gS_k hq) (by decide)) (hc a) hd hn hst hr8 hm (fun _ _ _ _ _ ⟨h1, h2, h3, h4, h5⟩ => by rw [h1, h2, h3, h4, h5]; exact kk a)
theorem kx_SX {x : MethodName} (hq : gS C q = true) (hX : xAmb G X Y d mc ms) (hY : xpOK Y = true) (hs : xlook Y.2.2.2.2.1 pc = some (.invokespecial idx, nx, a, cs)) (hl : xLsx Y.1.cls idx x Y' np) (hc : A → kM G d' Y' (.ref q :: as) C I mc' ms' v C' I') (hd : d' < d) (hn : as.length = np) (hst : st = as.reverse ++ .ref q :: rest) (hr8 : (rest.map fun v => v.category).sum ≤ 8) (hm : cells + mc' ≤ mc ∧ slots + ms' ≤ ms)
    (kk : A → kW G X Y C' I' (cells + mc') (slots + ms') nx lv (v.toList ++ rest)) : A → kW G X Y C I cells slots pc lv st :=
  fun a => ax_SX hX hY hs hl (gS_lt hq) (kK_pair C q) (Nat.lt_trans (gS_k hq) (by decide)) (hc a) hd hn hst hr8 hm (fun _ _ _ _ _ ⟨h1, h2, h3, h4, h5⟩ => by rw [h1, h2, h3, h4, h5]; exact kk a)
theorem kx_I (hq : gS C q = true) (hX : xAmb G X Y d mc ms) (hY : xpOK Y = true) (hs : xlook Y.2.2.2.2.1 pc = some (.invokespecial idx, nx, a, cs)) (hl : xLi Y.1.cls idx Y' np) (hret : Y'.2.2.2.1 = none) (hc : A → kM G d' Y' (.ref q :: as) C I mc' ms' v C' I') (hd : d' < d) (hn : as.length = np) (hst : st = as.reverse ++ .ref q :: rest) (hr8 : (rest.map fun v => v.category).sum ≤ 8) (hm : cells + mc' ≤ mc ∧ slots + ms' ≤ ms)
    (kk : A → kW G X Y C' I' (cells + mc') (slots + ms') nx lv (v.toList ++ rest)) : A → kW G X Y C I cells slots pc lv st :=
  fun a H locs ls hR hlo hlv => ax_I hX hY hs hl hret (Nat.lt_trans (gS_lt hq) hR.2.2.2.1) (hc a) hd hn hst hr8 hm (fun _ _ _ _ _ ⟨h1, h2, h3, h4, h5⟩ => by rw [h1, h2, h3, h4, h5]; exact kk a) H locs ls hR hlo hlv
end KX
end
section
/-! further rules over known places -/
def ush (x y : Int32) : Int32 := (x.toUInt32 >>> (y.toUInt32 &&& Int32.toUInt32 31)).toInt32
def lush (x : Int64) (y : Int32) : Int64 := (x.toUInt64 >>> (y.toInt64.toUInt64 &&& Int64.toUInt64 63)).toInt64
def i2c (x : Int32) : Int32 := (x.toUInt32 % 65536).toInt32
def b01 (x : Int32) : Bool := decide (x = 0) || decide (x = 1)
theorem b01_or {x : Int32} (h : b01 x = true) : x = 0 ∨ x = 1 := by
  unfold b01 at h
  simpa using h
theorem kx_via {A Q1 Q2 : Prop} (h : Q1 → Q2) (kk : A → Q1) : A → Q2 := fun a => h (kk a)
theorem kx_via2 {α : Type} {t : Nat} {e0 e1 r : α} {Q0 Q1 Q : Prop} (h : (t = 0 → Q0) → (¬ t = 0 → Q1) → Q) (k0 : t = 0 → e0 = r → Q0) (k1 : ¬ t = 0 → e1 = r → Q1) : (if t = 0 then e0 else e1) = r → Q := by
  intro q
  by_cases ht : t = 0
  · rw [if_pos ht] at q; exact h (fun _ => k0 ht q) (fun h2 => absurd ht h2)
  · rw [if_neg ht] at q; exact h (fun h2 => absurd h2 ht) (fun _ => k1 ht q)
theorem kx_via3 {α : Type} {t : Nat} {e0 e1 e2 r : α} {Q0 Q1 Q2 Q : Prop} (h : (t = 0 → Q0) → (¬ t = 0 → t = 1 → Q1) → (¬ t = 0 → ¬ t = 1 → Q2) → Q) (k0 : t = 0 → e0 = r → Q0) (k1 : ¬ t = 0 → t = 1 → e1 = r → Q1) (k2 : ¬ t = 0 → ¬ t = 1 → e2 = r → Q2) : (if t = 0 then e0 else if t = 1 then e1 else e2) = r → Q := by
  intro q
  by_cases ht : t = 0
  · rw [if_pos ht] at q; exact h (fun _ => k0 ht q) (fun h2 => absurd ht h2) (fun h2 => absurd ht h2)
  · rw [if_neg ht] at q
    by_cases h1 : t = 1
    · rw [if_pos h1] at q; exact h (fun h2 => absurd h2 ht) (fun _ _ => k1 ht h1 q) (fun _ h2 => absurd h1 h2)
    · rw [if_neg h1] at q; exact h (fun h2 => absurd h2 ht) (fun _ h2 => absurd h2 h1) (fun _ _ => k2 ht h1 q)
section KX
variable {G : xG} {X : xC} {Y Y' : MI} {d d' mc ms mc' ms' : Nat} {C C' : HC} {I I' : HI} {cells slots pc nx r k q w : Nat} {lv st : List Value} {A : Prop} {idx a : Nat} {cs : List (Int32 × Nat)}
theorem kx_widen {cells' slots' : Nat} (h1 : cells ≤ cells') (h2 : slots ≤ slots') (kk : kW G X Y C I cells' slots' pc lv st) : kW G X Y C I cells slots pc lv st :=
  fun H locs ls hR hlo hlv => W.widen h1 h2 (kk H locs ls hR hlo hlv)
theorem kW.small (h : 107 + hm C < 1000000 → kW G X Y C I cells slots pc lv st) : kW G X Y C I cells slots pc lv st :=
  fun H locs ls hR hlo hlv => h hR.2.2.2.1 H locs ls hR hlo hlv
theorem kA_lit {r w : Nat} (h : (Nat.blt r 107 && decide (xtab r = (13, w))) = true) : kA C r w := by
  simp only [Bool.and_eq_true, Nat.blt_eq, decide_eq_true_eq] at h
  exact ⟨lit_lt h.1, (kK_lit h.1).trans h.2⟩
theorem xnth_ge {α : Type} {d : α} : ∀ {l : List α} {n : Nat}, l.length ≤ n → xnth d l n = d := by
  intro l
  induction l with
  | nil => intro n _; rfl
  | cons a l ih =>
    intro n h
    cases n with
    | zero => simp at h
    | succ n => exact ih (by simpa using h)
theorem xptab_big {r k : Nat} (h : 107 ≤ r) : xptab r k = none := by
  unfold xptab
  rw [xnth_ge (by rw [show xptL.length = 107 by decide]; exact h)]
  rfl
theorem kP_big {r k : Nat} (h : 107 ≤ r) : kP C r k = none := by
  unfold kP
  rw [if_neg (by omega), if_neg (by omega), if_neg (by omega), xptab_big h]
theorem kK_new (h : hm C < 800000) (c : Nat) : kK (cN C c) (107 + hm C) = (c, 7) := by
  unfold kK
  rw [if_neg (by omega), if_neg (by omega), if_neg (by omega)]
  show ((if 107 + hm C = 107 + hm C then c else hk C (107 + hm C)), 7) = (c, 7)
  rw [if_pos rfl]
theorem kK_cN {q c : Nat} (h : q ≠ 107 + hm C) : kK (cN C c) q = kK C q := by
  unfold kK
  have : hk (cN C c) q = hk C q := by
    show (if q = 107 + hm C then c else hk C q) = hk C q
    rw [if_neg h]
  rw [this]
  rfl
theorem gS_cN {q c : Nat} (h : gS C q = true) : gS (cN C c) q = true := by
  have h1 := gS_lt h
  have h2 := gS_k h
  unfold gS kc
  rw [kK_cN (by omega)]
  simp only [Bool.and_eq_true, Nat.blt_eq]
  exact ⟨by show q < 107 + (hm C + 1); omega, h2⟩
theorem kx_new {α : Type} {c : Nat} {e : Option α} {b : α} (hX : xAmb G X Y d mc ms) (hY : xpOK Y = true) (hs : xlook Y.2.2.2.2.1 pc = some (.new idx, nx, a, cs)) (hc : c < 7) (hw : Cond.classLink Y.1.cls idx (xcn c) ∈ xw ∧ Cond.instantiable (xcn c) (xN c) ∈ xw ∧ Cond.initialized (xcn c) ∈ xw) (hr : cells + 1 ≤ mc ∧ slots + 7 ≤ ms)
    (kk : gS (cN C c) (107 + hm C) = true → e = some b → kW G X Y (cN C c) (xrow I (107 + hm C) (fun _ => 0)) (cells + 1) (slots + 7) nx lv (.ref (107 + hm C) :: st)) : grd (Nat.blt (hm C) 800000) e = some b → kW G X Y C I cells slots pc lv st :=
  kx_grd fun hb h => by
    have hlt : hm C < 800000 := by simpa [Nat.blt_eq] using hb
    have hN : xN c = 7 := by rcases (show c = 0 ∨ c = 1 ∨ c = 2 ∨ c = 3 ∨ c = 4 ∨ c = 5 ∨ c = 6 by omega) with rfl | rfl | rfl | rfl | rfl | rfl | rfl <;> rfl
    have hg : gS (cN C c) (107 + hm C) = true := by
      unfold gS kc
      rw [kK_new hlt]
      simp only [Bool.and_eq_true, Nat.blt_eq]
      exact ⟨by show 107 + hm C < 107 + (hm C + 1); omega, hc⟩
    have k2 := kk hg h
    unfold kW at k2 ⊢
    refine ax_new (c := c) (w := 7) (K' := kK (cN C c)) hX hY hs (by omega) hw (kK_new hlt c) (fun q hq => kK_cN hq) (by omega) (by rw [hN]; exact hr) ?_
    rw [hN]
    have hP : xprow (kP C) (107 + hm C) (fun _ => none) = kP (cN C c) := by
      funext r k
      unfold xprow
      by_cases hr : r = 107 + hm C
      · rw [if_pos hr, kP_big (by omega)]
      · rw [if_neg hr]; rfl
    rw [hP]
    exact k2
theorem kx_obj (hX : xAmb G X Y d mc ms) (hY : xpOK Y = true) (hs : xlook Y.2.2.2.2.1 pc = some (.invokespecial idx, nx, a, cs)) (hl : Cond.methodLink Y.1.cls idx Lib.objectInit ∈ xw ∧ Cond.instanceMethod Lib.objectInit ∈ xw ∧ Cond.code Lib.objectInit ⟨#[0xb1]⟩ 1 none ∈ xw) (hd1 : 0 < d) (hr8 : (st.map fun v => v.category).sum ≤ 8)
    (kk : A → kW G X Y C I cells slots nx lv st) : A → kW G X Y C I cells slots pc lv (.ref r :: st) := fun a => ax_obj hX hY hs hl hd1 hr8 (kk a)
theorem ax_aastA {n : Nat} {K : Nat → Nat × Nat} {P : Nat → Nat → Option Nat} {c w q cq wq : Nat} {i : Int32} {E : String} (hX : xAmb G X Y d mc ms) (hY : xpOK Y = true) (hr : r < n) (hk : K r = (c, w)) (hq : q < n) (hkq : K q = (cq, wq)) (hcq : cq < 13)
    (hE : (c = 15 ∧ E = "HandOverHorse$Stroke") ∨ (c = 16 ∧ E = "HandOverHorse$Text")) (hca : ∀ comp, X.2.2.2.2.1.vm.findClass E = some comp → X.2.2.2.2.1.vm.assignable (G.1.1 cq) comp = true) (hs : xis Y pc xq_aast = some nx) (hi : vp_in i w) (kk : aW G X Y n K I (xup P r i.toNatClampNeg (some q)) cells slots nx lv st) : aW G X Y n K I P cells slots pc lv (.ref q :: .int i :: .ref r :: st) := by
  obtain ⟨hd, rfl⟩ := xis_dec (ins := .aastore) hY hs (fun i h => by cases i <;> first | rfl | cases h) (by decide)
  intro H locs ls hR hlo hlv
  have ha := hR.at hr
  rw [xE_ref hk (by omega)] at ha
  have ha2 : H[G.2.2.1 + r]? = some (arrV (G.2.1 c) w (fun j => va_rf ((P r j).map (xmu G)))) := ha
  have hv := hR.at hq
  rw [xE_obj hkq hcq] at hv
  have e1 : xv G (.ref r) = .ref (G.2.2.1 + r) := congrArg Value.ref (xmu_new (hR.lt hr))
  have e2 : xv G (.ref q) = .ref (G.2.2.1 + q) := congrArg Value.ref (xmu_new (hR.lt hq))
  show W _ _ _ _ _ _ _ _ _ _ H locs cells slots _ (F0 _ pc ls (xv G (.ref q) :: .int i :: xv G (.ref r) :: st.map (xv G)))
  rw [e1, e2]
  have hK := hX.2.2.2.2.2.1.1
  have hts := hX.2.2.2.2.1
  have hlt : i.toNatClampNeg < w := Nat.not_le.mp fun q => hi (Or.inr q)
  have h0 : ¬ i < 0 := fun q => hi (Or.inl q)
  obtain ⟨r', hr', cellV, g1, g2, g3, -⟩ := hv
  have hcls := (hK.1 cq _ (xCl_get hcq)).2
  have hty : ∃ t0 : Nat, (xTys G)[t0]? = some (G.2.1 c, FieldType.object E) := by
    rcases hE with ⟨rfl, rfl⟩ | ⟨rfl, rfl⟩
    · exact ⟨2, rfl⟩
    · exact ⟨3, rfl⟩
  obtain ⟨t0, ht0⟩ := hty
  obtain ⟨kA, comp, k1, k2, k3, -⟩ := (hK.2 t0 _ ht0).2
  obtain ⟨kE, hkE, -⟩ := Vm.findClass_spec k3
  obtain ⟨kC, hkC, hkd⟩ := hcls.2
  have hasg : X.2.2.2.2.1.vm.assignable cellV.cls comp = true := by rw [g2]; exact hca comp k3
  refine W.aast hX.1 hX.2.1 ha2 (fun q h => by cases h) (fun h => by cases h) k1 k2 rfl hkE ⟨h0, by rw [arrV_size]; exact hlt⟩ g1 (fun q h => by rw [g3] at h; cases h) (by rw [g2]; exact hkC) hasg rfl rfl hd fun H1 e z oq => ?_
  refine kk H1 _ ls (hR.set hr z oq ?_ (fun q hq => xE_ne rfl (xup_ne hq)) (fun _ _ => rfl)) (t_lc hlo (by show G.2.2.1 ≤ _; omega)) hlv
  rw [xE_ref hk (by omega), xup_self]
  show H1[G.2.2.1 + r]? = some (vp_cell _ _)
  rw [e, vp_cell_q, arrV_store]
  congr 2
  funext j
  by_cases hj : j = i.toNatClampNeg
  · subst hj
    simp [updV, va_up, va_rf, xmu_new (hR.lt hq)]
  · simp [updV, va_up, hj]
theorem xasg_sub {vm : Vm} {a b : ClassId} {ka kb : Class} (hka : vm.classes[a]? = some ka) (hkb : vm.classes[b]? = some kb) (hoa : ka.kind = .ordinary) (hob : kb.kind = .ordinary) (hni : kb.isInterface = false) (h : vm.isSubclass a b = true) : vm.assignable a b = true := by
  unfold Vm.assignable Vm.assignableAux
  by_cases hab : a = b
  · subst hab; simp [hka, hoa]
  · have hne : (a == b) = false := by simpa using hab
    simp [hka, hkb, hoa, hob, hni, h]
theorem xa_sub2 {vm : Vm} {a b c : ClassId} {k k' : Class} (hk : vm.classes[a]? = some k) (hs : k.super = some b) (hk' : vm.classes[b]? = some k') (hs' : k'.super = some c) : vm.isSubclass a c = true := by
  unfold Vm.isSubclass
  have hlt : a < vm.classes.size := (Array.getElem?_eq_some_iff.mp hk).1
  have hlt' : b < vm.classes.size := (Array.getElem?_eq_some_iff.mp hk').1
  by_cases hab : a = b
  · subst hab
    rw [hk] at hk'
    cases hk'
    rw [hs] at hs'
    cases hs'
    have := xa_sub hk hs
    unfold Vm.isSubclass at this
    exact this
  cases hz : vm.classes.size with
  | zero => rw [hz] at hlt; exact absurd hlt (Nat.not_lt_zero _)
  | succ n =>
    cases n with
    | zero => rw [hz] at hlt hlt'; exact absurd ((Nat.lt_one_iff.mp hlt).trans (Nat.lt_one_iff.mp hlt').symm) hab
    | succ n =>
      unfold Vm.isSubclassAux
      rw [hk]
      simp only [hs]
      unfold Vm.isSubclassAux
      rw [hk']
      simp only [hs']
      unfold Vm.isSubclassAux
      simp
theorem xsup (p : Nat) {a b : String} (h : (decide (lw_tbl[p]? = some (.superclass a b)) && goodWord (.superclass a b)) = true) : Cond.superclass a b ∈ xw := xw_at p h
theorem xcast (hX : xAmb G X Y d mc ms) {c : Nat} (h : c < 7) : ∀ comp, X.2.2.2.2.1.vm.findClass "HandOverHorse$Stroke" = some comp → X.2.2.2.2.1.vm.assignable (G.1.1 c) comp = true := by
  intro comp hcomp
  have hts := hX.2.2.2.2.1
  have hK := hX.2.2.2.2.2.1.1
  have h0 := (hK.1 0 _ (xCl_get (by decide))).2
  have hc0 : comp = G.1.1 0 := Option.some.inj (hcomp.symm.trans h0.1)
  subst hc0
  obtain ⟨-, k0, hk0, hd0⟩ := h0
  obtain ⟨_, k0', _, _, hk0', _, _, _, _, hni0⟩ := Cond.superclass_spec hcomp (hts _ (xsup 159 (a := "HandOverHorse$Stroke") (b := "java/lang/Object") (by decide +kernel)))
  cases hk0.symm.trans hk0'
  have one : ∀ (c : Nat) (hc : c < 13), Cond.superclass (xcn c) "HandOverHorse$Stroke" ∈ xw → X.2.2.2.2.1.vm.assignable (G.1.1 c) (G.1.1 0) = true := by
    intro c hc hw
    obtain ⟨hfc, kc, hkc, hdc⟩ := (hK.1 c _ (xCl_get hc)).2
    obtain ⟨p, k1, kp, f1, f2, f3, f4, f5, f6, f7⟩ := Cond.superclass_spec hfc (hts _ hw)
    cases hcomp.symm.trans f1
    exact xasg_sub f2 f3 f5 f6 (by cases hk0.symm.trans f3; exact hni0) (xa_sub f2 f4)
  have two : ∀ (c c' : Nat) (hc : c < 13) (hc' : c' < 13), Cond.superclass (xcn c) (xcn c') ∈ xw → Cond.superclass (xcn c') "HandOverHorse$Stroke" ∈ xw → X.2.2.2.2.1.vm.assignable (G.1.1 c) (G.1.1 0) = true := by
    intro c c' hc hc' hw hw'
    obtain ⟨hfc, kc, hkc, hdc⟩ := (hK.1 c _ (xCl_get hc)).2
    obtain ⟨p, k1, kp, f1, f2, f3, f4, f5, f6, f7⟩ := Cond.superclass_spec hfc (hts _ hw)
    obtain ⟨p', k1', kp', g1, g2, g3, g4, g5, g6, g7⟩ := Cond.superclass_spec f1 (hts _ hw')
    cases hcomp.symm.trans g1
    exact xasg_sub f2 g3 f5 g6 (by cases hk0.symm.trans g3; exact hni0) (xa_sub2 f2 f4 g2 g4)
  rcases (show c = 0 ∨ c = 1 ∨ c = 2 ∨ c = 3 ∨ c = 4 ∨ c = 5 ∨ c = 6 by omega) with rfl | rfl | rfl | rfl | rfl | rfl | rfl
  · exact va_assign (hK.1 0 _ (xCl_get (by decide))).2
  · exact one 1 (by decide) (xsup 387 (by decide +kernel))
  · exact one 2 (by decide) (xsup 401 (by decide +kernel))
  · exact one 3 (by decide) (xsup 415 (by decide +kernel))
  · exact two 4 1 (by decide) (by decide) (xsup 429 (by decide +kernel)) (xsup 387 (by decide +kernel))
  · exact two 5 2 (by decide) (by decide) (xsup 443 (by decide +kernel)) (xsup 401 (by decide +kernel))
  · exact two 6 3 (by decide) (by decide) (xsup 457 (by decide +kernel)) (xsup 415 (by decide +kernel))
theorem kx_asT {α : Type} {i : Int32} {e : Option α} {b : α} (hq : gS C q = true) (hX : xAmb G X Y d mc ms) (hY : xpOK Y = true) (hs : xis Y pc xq_aast = some nx) (kk : e = some b → kW G X Y (cT C i.toNatClampNeg q) I cells slots nx lv st) : grd (bnd i 8) e = some b → kW G X Y C I cells slots pc lv (.ref q :: .int i :: .ref 2 :: st) :=
  kx_grd fun hb h => by
    have k2 := kk h
    unfold kW at k2 ⊢
    refine ax_aastA (c := 15) (w := 8) (r := 2) hX hY (lit_lt (by decide)) (kK_lit (by decide)) (gS_lt hq) (kK_pair C q) (Nat.lt_trans (gS_k hq) (by decide)) (Or.inl ⟨rfl, rfl⟩) (xcast hX (gS_k hq)) hs (bnd_in hb) ?_
    have hP : xup (kP C) 2 i.toNatClampNeg (some q) = kP (cT C i.toNatClampNeg q) := by
      funext r k
      unfold xup
      by_cases hr : r = 2
      · subst hr
        show va_up (kP C 2) _ _ k = some (if k = i.toNatClampNeg then q else hT C k)
        unfold va_up
        by_cases hk : k = i.toNatClampNeg
        · rw [if_pos hk, if_pos hk]
        · rw [if_neg hk, if_neg hk]; rfl
      · rw [if_neg hr]
        unfold kP
        rw [if_neg hr, if_neg hr]; rfl
    rw [hP]
    exact k2
theorem kx_asU {α : Type} {i : Int32} {e : Option α} {b : α} (hq : gS C q = true) (hX : xAmb G X Y d mc ms) (hY : xpOK Y = true) (hs : xis Y pc xq_aast = some nx) (kk : e = some b → kW G X Y (cU C i.toNatClampNeg q) I cells slots nx lv st) : grd (bnd i 8) e = some b → kW G X Y C I cells slots pc lv (.ref q :: .int i :: .ref 33 :: st) :=
  kx_grd fun hb h => by
    have k2 := kk h
    unfold kW at k2 ⊢
    refine ax_aastA (c := 15) (w := 8) (r := 33) hX hY (lit_lt (by decide)) (kK_lit (by decide)) (gS_lt hq) (kK_pair C q) (Nat.lt_trans (gS_k hq) (by decide)) (Or.inl ⟨rfl, rfl⟩) (xcast hX (gS_k hq)) hs (bnd_in hb) ?_
    have hP : xup (kP C) 33 i.toNatClampNeg (some q) = kP (cU C i.toNatClampNeg q) := by
      funext r k
      unfold xup
      by_cases hr : r = 33
      · subst hr
        show va_up (kP C 33) _ _ k = some (if k = i.toNatClampNeg then q else hU C k)
        unfold va_up
        by_cases hk : k = i.toNatClampNeg
        · rw [if_pos hk, if_pos hk]
        · rw [if_neg hk, if_neg hk]; rfl
      · rw [if_neg hr]
        unfold kP
        by_cases h2 : r = 2
        · rw [if_pos h2, if_pos h2]; rfl
        · rw [if_neg h2, if_neg h2, if_neg hr, if_neg hr]; rfl
    rw [hP]
    exact k2
theorem kx_putdt (hX : xAmb G X Y d mc ms) (hY : xpOK Y = true) (hC : Y.1.cls = xcn Y.2.2.2.2.2) (hs : xpf Y pc 7 = some (4, nx)) (kk : A → kW G X Y (cD C q (hdn C)) I cells slots nx lv st) : A → kW G X Y C I cells slots pc lv (.ref q :: .ref 26 :: st) := by
  intro a
  have k2 := kk a
  unfold kW at k2 ⊢
  refine ax_putp (r := 26) hX hY hC (lit_lt (by decide)) (kK_lit (by decide)) hs (Or.inl rfl) rfl ?_
  have hP : xup (kP C) 26 4 (some q) = kP (cD C q (hdn C)) := by
    funext r k
    unfold xup
    by_cases hr : r = 26
    · subst hr
      show va_up (kP C 26) 4 (some q) k = (if k = 4 then some q else if k = 7 then some (hdn C) else xptab 26 k)
      unfold va_up
      by_cases hk : k = 4
      · rw [if_pos hk, if_pos hk]
      · rw [if_neg hk, if_neg hk]
        show (if k = 4 then some (hdt C) else if k = 7 then some (hdn C) else xptab 26 k) = _
        rw [if_neg hk]
    · rw [if_neg hr]
      unfold kP
      by_cases h2 : r = 2
      · rw [if_pos h2, if_pos h2]; rfl
      · rw [if_neg h2, if_neg h2]
        by_cases h3 : r = 33
        · rw [if_pos h3, if_pos h3]; rfl
        · rw [if_neg h3, if_neg h3, if_neg hr, if_neg hr]
  rw [hP]
  exact k2
theorem kx_putdn (hX : xAmb G X Y d mc ms) (hY : xpOK Y = true) (hC : Y.1.cls = xcn Y.2.2.2.2.2) (hs : xpf Y pc 7 = some (7, nx)) (kk : A → kW G X Y (cD C (hdt C) q) I cells slots nx lv st) : A → kW G X Y C I cells slots pc lv (.ref q :: .ref 26 :: st) := by
  intro a
  have k2 := kk a
  unfold kW at k2 ⊢
  refine ax_putp (r := 26) hX hY hC (lit_lt (by decide)) (kK_lit (by decide)) hs (Or.inl rfl) rfl ?_
  have hP : xup (kP C) 26 7 (some q) = kP (cD C (hdt C) q) := by
    funext r k
    unfold xup
    by_cases hr : r = 26
    · subst hr
      show va_up (kP C 26) 7 (some q) k = (if k = 4 then some (hdt C) else if k = 7 then some q else xptab 26 k)
      unfold va_up
      by_cases hk : k = 7
      · rw [if_pos hk, if_neg (by omega), if_pos hk]
      · rw [if_neg hk, if_neg hk]
        show (if k = 4 then some (hdt C) else if k = 7 then some (hdn C) else xptab 26 k) = _
        rw [if_neg hk]
    · rw [if_neg hr]
      unfold kP
      by_cases h2 : r = 2
      · rw [if_pos h2, if_pos h2]; rfl
      · rw [if_neg h2, if_neg h2]
        by_cases h3 : r = 33
        · rw [if_pos h3, if_pos h3]; rfl
        · rw [if_neg h3, if_neg h3, if_neg hr, if_neg hr]
  rw [hP]
  exact k2
/-- a string constant -/
theorem ax_str {own tx : String} {j : Nat} {n : Nat} {K : Nat → Nat × Nat} {P : Nat → Nat → Option Nat} (hX : xAmb G X Y d mc ms) (hY : xpOK Y = true) (hC : Y.1.cls = own) (hs : xlook Y.2.2.2.2.1 pc = some (.ldc idx, nx, a, cs)) (hZ : vk_R own idx tx (G.2.2.2.1 j) X.2.2.2.2.1) (kk : aW G X Y n K I P cells slots nx lv (.ref (1000000 + j) :: st)) : aW G X Y n K I P cells slots pc lv st := by
  obtain ⟨hd, -, hlen, -⟩ := xdec hY hs
  obtain rfl : nx = pc + 2 := by simpa [xlen] using hlen
  rw [Nat.add_sub_cancel_left] at hd
  intro H locs ls hR hlo hlv
  have hown := hX.2.2.2.1
  rw [hC] at hown
  refine va_ldcS hX.1 hX.2.1 hown hZ hd ?_
  have e1 : xv G (.ref (1000000 + j)) = .ref (G.2.2.2.1 j) := by
    show Value.ref (xmu G (1000000 + j)) = _
    unfold xmu
    rw [if_neg (by omega), Nat.add_sub_cancel_left]
  have k2 := kk H locs ls hR hlo hlv
  rw [List.map_cons, e1] at k2
  exact k2
theorem kx_str2 (hX : xAmb G X Y d mc ms) (hY : xpOK Y = true) (hC : Y.1.cls = "HandOverHorse$Text") (hs : xlook Y.2.2.2.2.1 pc = some (.ldc 24, nx, a, cs)) (kk : A → kW G X Y C I cells slots nx lv (.ref 1000002 :: st)) : A → kW G X Y C I cells slots pc lv st := fun z => ax_str (j := 2) hX hY hC hs hX.2.2.2.2.2.1.2.1.2.2.1 (kk z)
theorem kx_str3 (hX : xAmb G X Y d mc ms) (hY : xpOK Y = true) (hC : Y.1.cls = "HandOverHorse$Wall") (hs : xlook Y.2.2.2.2.1 pc = some (.ldc 169, nx, a, cs)) (kk : A → kW G X Y C I cells slots nx lv (.ref 1000003 :: st)) : A → kW G X Y C I cells slots pc lv st := fun z => ax_str (j := 3) hX hY hC hs hX.2.2.2.2.2.1.2.1.2.2.2.1 (kk z)
theorem kx_str4 (hX : xAmb G X Y d mc ms) (hY : xpOK Y = true) (hC : Y.1.cls = "HandOverHorse$Wall") (hs : xlook Y.2.2.2.2.1 pc = some (.ldc 171, nx, a, cs)) (kk : A → kW G X Y C I cells slots nx lv (.ref 1000004 :: st)) : A → kW G X Y C I cells slots pc lv st := fun z => ax_str (j := 4) hX hY hC hs hX.2.2.2.2.2.1.2.1.2.2.2.2.1 (kk z)
theorem xl_mop : Cond.fieldLink "HandOverHorse" 97 "HandOverHorse" "MOST_OF_PART" "[I" ∈ xw := xw_at 614 (by decide +kernel)
theorem kx_gst (hX : xAmb G X Y d mc ms) (hY : xpOK Y = true) (hC : Y.1.cls = "HandOverHorse") (hs : xlook Y.2.2.2.2.1 pc = some (.getstatic 97, nx, a, cs)) (kk : A → kW G X Y C I cells slots nx lv (.ref 1000001 :: st)) : A → kW G X Y C I cells slots pc lv st := by
  intro z
  obtain ⟨hd, -, hlen, -⟩ := xdec hY hs
  obtain rfl : nx = pc + 3 := by simpa [xlen] using hlen
  rw [Nat.add_sub_cancel_left] at hd
  intro H locs ls hR hlo hlv
  have hown := hX.2.2.2.1
  rw [hC] at hown
  obtain ⟨cf, kf, fi, f, a', cell, h1, h2, h3, h4, h5, h6, h7, h8⟩ := hX.2.2.2.2.2.1.2.1.1
  have hlt : a' < G.2.2.1 := Nat.not_le.mp h8
  have e1 : xv G (.ref 1000001) = .ref (G.2.2.2.1 1) := by
    show Value.ref (xmu G 1000001) = _
    unfold xmu
    rw [if_neg (by omega)]
  have k2 := kk z H locs ls hR hlo hlv
  rw [List.map_cons, e1] at k2
  exact W.gets hX.1 hX.2.1 hown (hX.2.2.2.2.1 _ xl_mop) h1 h2 h3 h4 (by rw [hR.2.2.1 a' hlt]; exact h5) (fun e => by rw [e] at h6; cases h6) h7 rfl hd k2
/-- System.arraycopy of ints -/
def bcp (sp dp n : Int32) (w0 w1 : Nat) : Bool := decide (0 ≤ sp) && (decide (0 ≤ dp) && (decide (0 ≤ n) && (Nat.ble (sp.toNatClampNeg + n.toNatClampNeg) w0 && Nat.ble (dp.toNatClampNeg + n.toNatClampNeg) w1)))
def xLc (own : String) (idx : Nat) : Prop := Cond.methodLink own idx arraycopyName ∈ xw ∧ Cond.native arraycopyName ∈ xw ∧ Cond.static arraycopyName ∈ xw ∧ Cond.initialized "java/lang/System" ∈ xw
theorem kx_copy {α : Type} {q0 q1 w0 w1 : Nat} {sp dp n : Int32} {e : Option α} {b : α} (hk0 : kA C q0 w0) (hk1 : kA C q1 w1) (hd1 : 0 < d) (hX : xAmb G X Y d mc ms) (hY : xpOK Y = true) (hl : xLc Y.1.cls idx) (hs : xlook Y.2.2.2.2.1 pc = some (.invokestatic idx, nx, a, cs)) (hr8 : (st.map fun v => v.category).sum ≤ 8)
    (kk : e = some b → kW G X Y C (xrow I q1 (va_cpy (I q0) (I q1) sp.toNatClampNeg dp.toNatClampNeg n.toNatClampNeg)) cells slots nx lv st) : grd (bcp sp dp n w0 w1) e = some b → kW G X Y C I cells slots pc lv (.int n :: .int dp :: .ref q1 :: .int sp :: .ref q0 :: st) :=
  kx_grd fun hb h => by
    simp only [bcp, Bool.and_eq_true, decide_eq_true_eq, Nat.ble_eq] at hb
    obtain ⟨g1, g2, g3, h4, h5⟩ := hb
    have h1 := Int32.not_lt.mpr g1
    have h2 := Int32.not_lt.mpr g2
    have h3 := Int32.not_lt.mpr g3
    have k2 := kk h
    obtain ⟨hd, -, hlen, -⟩ := xdec hY hs
    obtain rfl : nx = pc + 3 := by simpa [xlen] using hlen
    rw [Nat.add_sub_cancel_left] at hd
    intro H locs ls hR hlo hlv
    have nn : ∀ z : Int32, ¬ z < 0 → z.toInt = (z.toNatClampNeg : Int) := by
      intro z hz
      have hz0 : (0 : Int) ≤ z.toInt := by
        have := Int32.not_lt.mp hz
        simpa using Int32.le_iff_toInt_le.mp this
      show z.toInt = ((z.toInt.toNat : Nat) : Int)
      omega
    have ha0 := hR.at hk0.1
    rw [xE_int hk0.2 (by decide) (by decide)] at ha0
    have ha1 := hR.at hk1.1
    rw [xE_int hk1.2 (by decide) (by decide)] at ha1
    have hc0 : H[G.2.2.1 + q0]? = some (vp_cell (G.2.1 13) (w0, .inl (I q0))) := ha0
    have hc1 : H[G.2.2.1 + q1]? = some (vp_cell (G.2.1 13) (w1, .inl (I q1))) := ha1
    have e0 : xv G (.ref q0) = .ref (G.2.2.1 + q0) := congrArg Value.ref (xmu_new (hR.lt hk0.1))
    have e1 : xv G (.ref q1) = .ref (G.2.2.1 + q1) := congrArg Value.ref (xmu_new (hR.lt hk1.1))
    obtain ⟨p, l, en, R, s, m, args, below, meth, cde, Q⟩ := X
    have hts := hX.2.2.2.2.1
    have hf := hX.2.2.2.2.2.2.1
    have hlc := hX.2.2.2.2.2.2.2.1
    dsimp only at hts hX hf hlc ⊢
    show W p l en R s m args below meth cde H locs cells slots Q (F0 m pc ls (.int n :: .int dp :: xv G (.ref q1) :: .int sp :: xv G (.ref q0) :: st.map (xv G)))
    rw [e0, e1]
    obtain ⟨-, k0, hkk0, cm0, hkd0⟩ := (hX.2.2.2.2.2.1.1.2 0 _ rfl).1 w0 (fun j => .int (I q0 j))
    obtain ⟨-, k1, hkk1, cm1, hkd1⟩ := (hX.2.2.2.2.2.1.1.2 0 _ rfl).1 w1 (fun j => .int (I q1 j))
    intro T hT XX
    obtain ⟨vm', X', step⟩ := XX.arraycopy hX.1 hX.2.2.2.1 (hts _ hl.1) (hts _ hl.2.1) (hts _ hl.2.2.1) (hts _ hl.2.2.2) (src := G.2.2.1 + q0) (dst := G.2.2.1 + q1) (cs := vp_cell (G.2.1 13) (w0, .inl (I q0))) (cd := vp_cell (G.2.1 13) (w1, .inl (I q1))) (srcPos := sp) (destPos := dp) (n := n) (by rw [hT]; exact hc0) (by rw [hT]; exact hc1)
      (fun _ h => by cases h) (fun _ h => by cases h) (fun h => by cases h) (fun h => by cases h) hkk0 hkk1 hkd0 hkd1 (by simp [refKind]) h1 h2 h3
      (by rw [nn sp h1, nn n h3]; show ¬ _ > ((arrV (G.2.1 13) w0 (fun j => .int (I q0 j))).slots.size : Int); rw [arrV_size]; omega)
      (by rw [nn dp h2, nn n h3]; show ¬ _ > ((arrV (G.2.1 13) w1 (fun j => .int (I q1 j))).slots.size : Int); rw [arrV_size]; omega)
      (fun vm₁ _ i hi => by
        have e : (vp_cell (G.2.1 13) (w0, .inl (I q0))).slots.getD (sp.toNatClampNeg + i) .null = .int (I q0 (sp.toNatClampNeg + i)) := by
          show (arrV (G.2.1 13) w0 (fun j => .int (I q0 j))).slots.getD _ _ = _
          rw [Array.getD_eq_getD_getElem?, arrV_read _ _ (by omega)]
          rfl
        refine ⟨?_, ?_⟩
        · rw [e]; rfl
        · rw [e]; exact trivial)
      (g := F0 m pc ls (.int n :: .int dp :: .ref (G.2.2.1 + q1) :: .int sp :: .ref (G.2.2.1 + q0) :: st.map (xv G))) rfl (hlv.1.trans hX.2.2.1.symm) (rest := st.map (xv G)) rfl (by rw [hX.2.1]; exact hd) (by omega) (by
        show 2 * 0 + ((st.map (xv G)).map fun v => v.category).sum + (nativeFrameWords "java/lang/System" "arraycopy" 5 + 11) ≤ _
        rw [xcats]
        have : nativeFrameWords "java/lang/System" "arraycopy" 5 ≤ 40 := by decide
        omega)
    have e2 : copied (vp_cell (G.2.1 13) (w0, .inl (I q0))) (vp_cell (G.2.1 13) (w1, .inl (I q1))) sp dp n = vp_cell (G.2.1 13) (w1, .inl (va_cpy (I q0) (I q1) sp.toNatClampNeg dp.toNatClampNeg n.toNatClampNeg)) := va_copied (fun z => .int z) _ _ (I q0) (I q1) h4
    rw [e2] at X' step
    have hlt : G.2.2.1 + q1 < H.size := (Array.getElem?_eq_some_iff.mp hc1).1
    generalize hcell : vp_cell (G.2.1 13) (w1, .inl (va_cpy (I q0) (I q1) sp.toNatClampNeg dp.toNatClampNeg n.toNatClampNeg)) = cell at X' step
    have hheap : ((T.setVm vm').setCell (G.2.2.1 + q1) cell).heap = H.setIfInBounds (G.2.2.1 + q1) cell := by rw [← hT]; rfl
    have oq : ∀ q : Nat, q ≠ G.2.2.1 + q1 → (H.setIfInBounds (G.2.2.1 + q1) cell)[q]? = H[q]? := fun q hq => by simp [Array.getElem?_setIfInBounds, Ne.symm hq]
    have hR' : xR G (107 + hm C) (kK C) (xrow I q1 (va_cpy (I q0) (I q1) sp.toNatClampNeg dp.toNatClampNeg n.toNatClampNeg)) (kP C) (H.setIfInBounds (G.2.2.1 + q1) cell) := by
      refine hR.set hk1.1 (by simp) oq ?_ (fun q hq => xE_ne (xrow_ne hq) rfl) (fun j hj => xrow_ne (by have := hR.lt hk1.1; omega))
      rw [xE_int hk1.2 (by decide) (by decide), xrow_self]
      show (H.setIfInBounds (G.2.2.1 + q1) cell)[G.2.2.1 + q1]? = some (vp_cell _ _)
      rw [hcell]
      simp [Array.getElem?_setIfInBounds, hlt]
    obtain ⟨t, a1, b1⟩ := k2 _ _ ls hR' (fun q hq => by
      rcases List.mem_append.mp hq with h | h
      · exact hlo q h
      · obtain ⟨z, -, hz⟩ := List.mem_map.mp h
        rw [← hz]
        show G.2.2.1 ≤ _
        exact Nat.le_add_right _ _) hlv _ hheap X'
    exact ⟨t, step t a1, b1⟩
end KX
end
section
/-! Math.max, min, abs -/
def mmax (x y : Int32) : Int32 := if x < y then y else x
def mmin (x y : Int32) : Int32 := if y < x then y else x
def mabs (x : Int32) : Int32 := if 0 ≤ x then x else 0 - x
theorem xc_max : Cond.code Lib.Math.max.name Lib.Math.max.code 2 (some .int) ∈ xw := xw_at 525 (by decide +kernel)
theorem kx_max {G : xG} {X : xC} {Y : MI} {d mc ms : Nat} {C : HC} {I : HI} {cells slots pc nx idx a : Nat} {lv st : List Value} {A : Prop} {cs : List (Int32 × Nat)} {x y : Int32} (hd1 : 0 < d) (hroom : cells ≤ mc ∧ slots ≤ ms) (hX : xAmb G X Y d mc ms) (hY : xpOK Y = true) (hs : xlook Y.2.2.2.2.1 pc = some (.invokestatic idx, nx, a, cs)) (hl : xLs Y.1.cls idx m_Math_max 2) (hr8 : (st.map fun v => v.category).sum ≤ 8)
    (kk : A → kW G X Y C I cells slots nx lv (.int (mmax x y) :: st)) : A → kW G X Y C I cells slots pc lv (.int y :: .int x :: st) := by
  intro z
  obtain ⟨hd, -, hlen, -⟩ := xdec hY hs
  obtain rfl : nx = pc + 3 := by simpa [xlen] using hlen
  rw [Nat.add_sub_cancel_left] at hd
  intro H locs ls hR hlo hlv
  have hts := hX.2.2.2.2.1
  have hf := hX.2.2.2.2.2.2.1
  have hlc := hX.2.2.2.2.2.2.2.1
  refine va_mmax hX.1 hX.2.1 (hX.2.2.1.trans hlv.1.symm) hX.2.2.2.1 (hts _ hl.1.1) (hts _ hl.2) (hts _ hl.1.2.1) (hts _ xc_max) (by omega) ?_ (Nat.le_trans hroom.1 hX.2.2.2.2.2.2.2.2.1) (Nat.le_trans hroom.2 hX.2.2.2.2.2.2.2.2.2.1) hd (kk z H locs ls hR hlo hlv)
  rw [xcats]
  omega
theorem xc_min : Cond.code Lib.Math.min.name Lib.Math.min.code 2 (some .int) ∈ xw := xw_at 563 (by decide +kernel)
theorem kx_min {G : xG} {X : xC} {Y : MI} {d mc ms : Nat} {C : HC} {I : HI} {cells slots pc nx idx a : Nat} {lv st : List Value} {A : Prop} {cs : List (Int32 × Nat)} {x y : Int32} (hd1 : 0 < d) (hroom : cells ≤ mc ∧ slots ≤ ms) (hX : xAmb G X Y d mc ms) (hY : xpOK Y = true) (hs : xlook Y.2.2.2.2.1 pc = some (.invokestatic idx, nx, a, cs)) (hl : xLs Y.1.cls idx m_Math_min 2) (hr8 : (st.map fun v => v.category).sum ≤ 8)
    (kk : A → kW G X Y C I cells slots nx lv (.int (mmin x y) :: st)) : A → kW G X Y C I cells slots pc lv (.int y :: .int x :: st) := by
  intro z
  obtain ⟨hd, -, hlen, -⟩ := xdec hY hs
  obtain rfl : nx = pc + 3 := by simpa [xlen] using hlen
  rw [Nat.add_sub_cancel_left] at hd
  intro H locs ls hR hlo hlv
  have hts := hX.2.2.2.2.1
  have hf := hX.2.2.2.2.2.2.1
  have hlc := hX.2.2.2.2.2.2.2.1
  refine va_mmin hX.1 hX.2.1 (hX.2.2.1.trans hlv.1.symm) hX.2.2.2.1 (hts _ hl.1.1) (hts _ hl.2) (hts _ hl.1.2.1) (hts _ xc_min) (by omega) ?_ (Nat.le_trans hroom.1 hX.2.2.2.2.2.2.2.2.1) (Nat.le_trans hroom.2 hX.2.2.2.2.2.2.2.2.2.1) hd (kk z H locs ls hR hlo hlv)
  rw [xcats]
  omega
theorem xc_abs : Cond.code Lib.Math.abs.name Lib.Math.abs.code 1 (some .int) ∈ xw := xw_at 990 (by decide +kernel)
theorem kx_abs {G : xG} {X : xC} {Y : MI} {d mc ms : Nat} {C : HC} {I : HI} {cells slots pc nx idx a : Nat} {lv st : List Value} {A : Prop} {cs : List (Int32 × Nat)} {x : Int32} (hd1 : 0 < d) (hroom : cells ≤ mc ∧ slots ≤ ms) (hX : xAmb G X Y d mc ms) (hY : xpOK Y = true) (hs : xlook Y.2.2.2.2.1 pc = some (.invokestatic idx, nx, a, cs)) (hl : xLs Y.1.cls idx m_Math_abs 1) (hr8 : (st.map fun v => v.category).sum ≤ 8)
    (kk : A → kW G X Y C I cells slots nx lv (.int (mabs x) :: st)) : A → kW G X Y C I cells slots pc lv (.int x :: st) := by
  intro z
  obtain ⟨hd, -, hlen, -⟩ := xdec hY hs
  obtain rfl : nx = pc + 3 := by simpa [xlen] using hlen
  rw [Nat.add_sub_cancel_left] at hd
  intro H locs ls hR hlo hlv
  have hts := hX.2.2.2.2.1
  have hf := hX.2.2.2.2.2.2.1
  have hlc := hX.2.2.2.2.2.2.2.1
  refine va_mabs hX.1 hX.2.1 (hX.2.2.1.trans hlv.1.symm) hX.2.2.2.1 (hts _ hl.1.1) (hts _ hl.2) (hts _ hl.1.2.1) (hts _ xc_abs) (by omega) ?_ (Nat.le_trans hroom.1 hX.2.2.2.2.2.2.2.2.1) (Nat.le_trans hroom.2 hX.2.2.2.2.2.2.2.2.2.1) hd (kk z H locs ls hR hlo hlv)
  rw [xcats]
  omega
end
section
/-! the names' strings: String.indexOf, walked over the two literals -/
def sidx (dn : Nat) (ch : Int32) : Int32 := if dn = 1000003 then (if ch = 99 then 0 else if ch = 109 then 1 else if ch = 107 then 2 else if ch = 104 then 3 else -1) else (if ch = 119 then 0 else if ch = 107 then 1 else if ch = 99 then 2 else -1)
def sxN (i : Nat) : Nat := ([4, 3] : List Nat).getD i 0
def sxB (i j : Nat) : Int32 := (([[99, 109, 107, 104], [119, 107, 99]] : List (List Int32)).getD i []).getD j 0
theorem ok_Str_length : xpOK m_Str_length = true := by decide +kernel
theorem ok_Str_indexOf : xpOK m_Str_indexOf = true := by decide +kernel
theorem ok_Str_indexOf_ : xpOK m_Str_indexOf_ = true := by decide +kernel
theorem ok_Str_coder : xpOK m_Str_coder = true := by decide +kernel
theorem ok_Str_isLatin1 : xpOK m_Str_isLatin1 = true := by decide +kernel
theorem ok_Lat_canEncode : xpOK m_Lat_canEncode = true := by decide +kernel
theorem ok_Lat_indexOf : xpOK m_Lat_indexOf = true := by decide +kernel
theorem ok_Lat_indexOfChar : xpOK m_Lat_indexOfChar = true := by decide +kernel
theorem l_Text_72 : xLv "HandOverHorse$Text" 72 m_Str_indexOf 1 := ⟨xLk_of 770 89 773 (by decide +kernel), xw_at 771 (by decide +kernel), xw_at 772 (by decide +kernel)⟩
theorem l_Str_633 : xLv "java/lang/String" 633 m_Str_indexOf_ 2 := ⟨xLk_of 774 89 777 (by decide +kernel), xw_at 775 (by decide +kernel), xw_at 776 (by decide +kernel)⟩
theorem l_Str_492 : xLv "java/lang/String" 492 m_Str_isLatin1 0 := ⟨xLk_of 778 89 781 (by decide +kernel), xw_at 779 (by decide +kernel), xw_at 780 (by decide +kernel)⟩
theorem l_Str_505 : xLv "java/lang/String" 505 m_Str_length 0 := ⟨xLk_of 784 89 787 (by decide +kernel), xw_at 785 (by decide +kernel), xw_at 786 (by decide +kernel)⟩
theorem l_Str_335 : xLv "java/lang/String" 335 m_Str_coder 0 := ⟨xLk_of 788 89 791 (by decide +kernel), xw_at 789 (by decide +kernel), xw_at 790 (by decide +kernel)⟩
theorem l_Str_637 : xLs "java/lang/String" 637 m_Lat_indexOf 4 := ⟨xLk_of 792 90 794 (by decide +kernel), xw_at 793 (by decide +kernel)⟩
theorem l_Lat_88 : xLs "java/lang/StringLatin1" 88 m_Lat_canEncode 1 := ⟨xLk_of 795 90 797 (by decide +kernel), xw_at 796 (by decide +kernel)⟩
theorem l_Lat_92 : xLs "java/lang/StringLatin1" 92 m_Math_max 2 := ⟨xLk_of 798 88 525 (by decide +kernel), xw_at 524 (by decide +kernel)⟩
theorem l_Lat_38 : xLs "java/lang/StringLatin1" 38 m_Math_min 2 := ⟨xLk_of 799 88 563 (by decide +kernel), xw_at 562 (by decide +kernel)⟩
theorem l_Lat_95 : xLs "java/lang/StringLatin1" 95 m_Lat_indexOfChar 4 := ⟨xLk_of 800 90 802 (by decide +kernel), xw_at 801 (by decide +kernel)⟩
theorem xw_cs : Cond.fieldLink "java/lang/String" 38 "java/lang/String" "COMPACT_STRINGS" "Z" ∈ xw := xw_at 782 (by decide +kernel)
theorem xw_co : Cond.fieldLink "java/lang/String" 15 "java/lang/String" "coder" "B" ∈ xw := xw_at 1798 (by decide +kernel)
theorem xw_va : Cond.fieldLink "java/lang/String" 9 "java/lang/String" "value" "[B" ∈ xw := xw_at 1799 (by decide +kernel)
theorem sx_mu {G : xG} {k : Nat} : xmu G (1000000 + k) = G.2.2.2.1 k := by
  unfold xmu
  rw [if_neg (by omega), Nat.add_sub_cancel_left]
theorem sx_all : ∀ i, i < 2 → ∀ n, n < 256 → ∀ j, j < sxN i → (sxB i j = (nI n).toInt8.toInt32 ↔ nI n = sxB i j) := by decide +kernel
theorem sx_eq {i j : Nat} {ch : Int32} (hi : i < 2) (hj : j < sxN i) (h0 : ¬ ch < 0) (h1 : ¬ 255 < ch) : sxB i j = ch.toInt8.toInt32 ↔ ch = sxB i j := by
  obtain ⟨n, hn, rfl⟩ := nI_of h0
  have h256 : n < 256 := by
    rcases Nat.lt_or_ge n 256 with q | q
    · exact q
    · exact absurd (nI_lt (a := 255) (b := n) (by omega) hn) h1
  exact sx_all i hi n h256 j hj
/-- what indexOf answers -/
def sxI (i : Nat) (ch : Int32) : Int32 := sidx (1000003 + i) ch
theorem sx_out {i : Nat} {ch : Int32} (hi : i < 2) (h : ch < 0 ∨ 255 < ch) : sxI i ch = -1 := by
  have key : ∀ b : Int32, 0 ≤ b → b ≤ 255 → ch ≠ b := by
    rintro b hb0 hb1 rfl
    rcases h with h | h
    · exact absurd h (Int32.not_lt.mpr hb0)
    · exact absurd h (Int32.not_lt.mpr hb1)
  have k1 := key 99 (by decide) (by decide)
  have k2 := key 109 (by decide) (by decide)
  have k3 := key 107 (by decide) (by decide)
  have k4 := key 104 (by decide) (by decide)
  have k5 := key 119 (by decide) (by decide)
  unfold sxI sidx
  simp only [if_neg k1, if_neg k2, if_neg k3, if_neg k4, if_neg k5, ite_self]
section SX
variable {G : xG} {X : xC} {Y Y' : MI} {d d' mc ms mc' ms' n np idx a : Nat} {cs : List (Int32 × Nat)} {K : Nat → Nat × Nat} {I : Nat → Nat → Int32} {P : Nat → Nat → Option Nat} {C : HC} {cells slots pc nx i : Nat} {lv st as rest : List Value} {Post' : xPost} {A : Prop} {v : Option Value} {ch : Int32}
theorem sx_S (hX : xAmb G X Y d mc ms) (hi : i < 2) : va_O "java/lang/String" (G.2.2.2.1 (3 + i)) (xA G) X.2.2.2.2.1 G.2.2.2.2 ∧ va_OF "java/lang/String" "coder" "B" (.int 0) (G.2.2.2.1 (3 + i)) (xA G) X.2.2.2.2.1 G.2.2.2.2 ∧ va_OF "java/lang/String" "value" "[B" (.ref (G.2.2.2.1 (5 + i))) (G.2.2.2.1 (3 + i)) (xA G) X.2.2.2.2.1 G.2.2.2.2 ∧ va_T .byte (G.2.2.2.1 (5 + i)) (sxN i) (fun j => .int (sxB i j)) (xA G) X.2.2.2.2.1 G.2.2.2.2 :=
  hX.2.2.2.2.2.1.2.1.2.2.2.2.2.1 i hi
/-- COMPACT_STRINGS -/
theorem kx_cs (hX : xAmb G X Y d mc ms) (hY : xpOK Y = true) (hC : Y.1.cls = "java/lang/String") (hs : xlook Y.2.2.2.2.1 pc = some (.getstatic 38, nx, a, cs)) (kk : A → kW G X Y C I cells slots nx lv (.int 1 :: st)) : A → kW G X Y C I cells slots pc lv st := by
  intro z
  obtain ⟨hd, -, hlen, -⟩ := xdec hY hs
  obtain rfl : nx = pc + 3 := by simpa [xlen] using hlen
  rw [Nat.add_sub_cancel_left] at hd
  intro H locs ls hR hlo hlv
  have hown := hX.2.2.2.1
  rw [hC] at hown
  obtain ⟨cf, kf, fi, f, a', cell, h1, h2, h3, h4, h5, h6, h7, h8⟩ := hX.2.2.2.2.2.1.2.1.2.1
  have hlt : a' < G.2.2.1 := Nat.not_le.mp h8
  exact W.gets hX.1 hX.2.1 hown (hX.2.2.2.2.1 _ xw_cs) h1 h2 h3 h4 (by rw [hR.2.2.1 a' hlt]; exact h5) (fun e => by rw [e] at h6; cases h6) h7 rfl hd (kk z H locs ls hR hlo hlv)
/-- a literal's fields -/
theorem kx_sco (hi : i < 2) (hX : xAmb G X Y d mc ms) (hY : xpOK Y = true) (hC : Y.1.cls = "java/lang/String") (hs : xlook Y.2.2.2.2.1 pc = some (.getfield 15, nx, a, cs)) (kk : A → kW G X Y C I cells slots nx lv (.int 0 :: st)) : A → kW G X Y C I cells slots pc lv (.ref (1000000 + (3 + i)) :: st) := by
  intro z
  obtain ⟨hd, -, hlen, -⟩ := xdec hY hs
  obtain rfl : nx = pc + 3 := by simpa [xlen] using hlen
  rw [Nat.add_sub_cancel_left] at hd
  intro H locs ls hR hlo hlv
  have hown := hX.2.2.2.1
  rw [hC] at hown
  obtain ⟨cf, k, fi, f, cell, h1, h2, h3, h4, h5, h6⟩ := (sx_S hX hi).2.1
  have hlt : G.2.2.2.1 (3 + i) < G.2.2.1 := Nat.not_le.mp h6
  have e1 : xv G (.ref (1000000 + (3 + i))) = .ref (G.2.2.2.1 (3 + i)) := congrArg Value.ref sx_mu
  show W _ _ _ _ _ _ _ _ _ _ H locs cells slots _ (F0 _ pc ls (xv G (.ref (1000000 + (3 + i))) :: st.map (xv G)))
  rw [e1]
  exact W.getf hX.1 hX.2.1 hown (hX.2.2.2.2.1 _ xw_co) h1 h2 (by rw [hR.2.2.1 _ hlt]; exact h3) h4 h5 rfl rfl hd (kk z H locs ls hR hlo hlv)
theorem kx_sva (hi : i < 2) (hX : xAmb G X Y d mc ms) (hY : xpOK Y = true) (hC : Y.1.cls = "java/lang/String") (hs : xlook Y.2.2.2.2.1 pc = some (.getfield 9, nx, a, cs)) (kk : A → kW G X Y C I cells slots nx lv (.ref (1000000 + (5 + i)) :: st)) : A → kW G X Y C I cells slots pc lv (.ref (1000000 + (3 + i)) :: st) := by
  intro z
  obtain ⟨hd, -, hlen, -⟩ := xdec hY hs
  obtain rfl : nx = pc + 3 := by simpa [xlen] using hlen
  rw [Nat.add_sub_cancel_left] at hd
  intro H locs ls hR hlo hlv
  have hown := hX.2.2.2.1
  rw [hC] at hown
  obtain ⟨cf, k, fi, f, cell, h1, h2, h3, h4, h5, h6⟩ := (sx_S hX hi).2.2.1
  have hlt : G.2.2.2.1 (3 + i) < G.2.2.1 := Nat.not_le.mp h6
  have e1 : xv G (.ref (1000000 + (3 + i))) = .ref (G.2.2.2.1 (3 + i)) := congrArg Value.ref sx_mu
  have e2 : xv G (.ref (1000000 + (5 + i))) = .ref (G.2.2.2.1 (5 + i)) := congrArg Value.ref sx_mu
  show W _ _ _ _ _ _ _ _ _ _ H locs cells slots _ (F0 _ pc ls (xv G (.ref (1000000 + (3 + i))) :: st.map (xv G)))
  rw [e1]
  have k2 := kk z H locs ls hR hlo hlv
  rw [List.map_cons, e2] at k2
  exact W.getf hX.1 hX.2.1 hown (hX.2.2.2.2.1 _ xw_va) h1 h2 (by rw [hR.2.2.1 _ hlt]; exact h3) h4 h5 rfl rfl hd k2
theorem kx_sle (hi : i < 2) (hX : xAmb G X Y d mc ms) (hY : xpOK Y = true) (hs : xis Y pc xq_alen = some nx) (kk : A → kW G X Y C I cells slots nx lv (.int (nI (sxN i)) :: st)) : A → kW G X Y C I cells slots pc lv (.ref (1000000 + (5 + i)) :: st) := by
  intro z
  obtain ⟨hd, rfl⟩ := xis_dec (ins := .arraylength) hY hs (fun i h => by cases i <;> first | rfl | cases h) (by decide)
  intro H locs ls hR hlo hlv
  obtain ⟨cell, h1, h2, h3, h4, h5, h6, h7⟩ := (sx_S hX hi).2.2.2
  have hlt : G.2.2.2.1 (5 + i) < G.2.2.1 := Nat.not_le.mp h7
  have e1 : xv G (.ref (1000000 + (5 + i))) = .ref (G.2.2.2.1 (5 + i)) := congrArg Value.ref sx_mu
  show W _ _ _ _ _ _ _ _ _ _ H locs cells slots _ (F0 _ pc ls (xv G (.ref (1000000 + (5 + i))) :: st.map (xv G)))
  rw [e1]
  exact W.alen (n := nI (sxN i)) hX.1 hX.2.1 (by rw [hR.2.2.1 _ hlt]; exact h1) h2 h5 rfl rfl hd (kk z H locs ls hR hlo hlv)
theorem kx_sba {j : Nat} {x : Int32} (hi : i < 2) (hj : j < sxN i) (hx : ¬ x < 0) (hxj : x.toNatClampNeg = j) (hX : xAmb G X Y d mc ms) (hY : xpOK Y = true) (hs : xis Y pc xq_bald = some nx) (kk : A → kW G X Y C I cells slots nx lv (.int (sxB i j) :: st)) : A → kW G X Y C I cells slots pc lv (.int x :: .ref (1000000 + (5 + i)) :: st) := by
  intro z
  obtain ⟨hd, rfl⟩ := xis_dec (ins := .baload) hY hs (fun i h => by cases i <;> first | rfl | cases h) (by decide)
  intro H locs ls hR hlo hlv
  obtain ⟨cell, h1, h2, h3, h4, h5, h6, h7⟩ := (sx_S hX hi).2.2.2
  have hlt : G.2.2.2.1 (5 + i) < G.2.2.1 := Nat.not_le.mp h7
  have e1 : xv G (.ref (1000000 + (5 + i))) = .ref (G.2.2.2.1 (5 + i)) := congrArg Value.ref sx_mu
  show W _ _ _ _ _ _ _ _ _ _ H locs cells slots _ (F0 _ pc ls (.int x :: xv G (.ref (1000000 + (5 + i))) :: st.map (xv G)))
  rw [e1]
  refine W.bald (v := .int (sxB i j)) hX.1 hX.2.1 (by rw [hR.2.2.1 _ hlt]; exact h1) h2 h3 ?_ (by rw [hxj]; exact h6 j hj) rfl rfl hd (kk z H locs ls hR hlo hlv)
  rintro (q | q)
  · exact hx q
  · omega
/-- a method of a literal -/
theorem ax_VS (hi : i < 2) (hX : xAmb G X Y d mc ms) (hY : xpOK Y = true) (hs : xlook Y.2.2.2.2.1 pc = some (.invokevirtual idx, nx, a, cs)) (hl : xLv Y.1.cls idx Y' np) (hcl : Y'.1.cls = "java/lang/String") (hc : cM G d' Y' (.ref (1000000 + (3 + i)) :: as) n K I P mc' ms' Post') (hd' : d' < d) (hn : as.length = np) (hst : st = as.reverse ++ .ref (1000000 + (3 + i)) :: rest) (hr8 : (rest.map fun v => v.category).sum ≤ 8) (hm : cells + mc' ≤ mc ∧ slots + ms' ≤ ms)
    (kk : ∀ v n' K' I' P', Post' v n' K' I' P' → aW G X Y n' K' I' P' (cells + mc') (slots + ms') nx lv (v.toList ++ rest)) : aW G X Y n K I P cells slots pc lv st := by
  obtain ⟨hd, -, hlen, -⟩ := xdec hY hs
  obtain rfl : nx = pc + 3 := by simpa [xlen] using hlen
  rw [Nat.add_sub_cancel_left] at hd
  intro H locs ls hR hlo hlv
  have hts := hX.2.2.2.2.1
  obtain ⟨⟨h1, h2, h3, h4, h5, h6⟩, h7, h8⟩ := hl
  have cb := callB_of (R := X.2.2.2.1) (own := Y.1.cls) (index := idx) (y := Y'.1) (bytes := Y'.2.1) (maxL := Y'.2.2.1) (ret := Y'.2.2.2.1) (ws := cWs Y') (rm := rmD d' mc' ms') (mc := mc') (ms := ms') np hts (xgood h3) rfl rfl rfl (hts _ h2) (hts _ h1) ⟨h4.1, h4.2, h5⟩ (xmono hX hd' h6)
  obtain ⟨cell, g1, g2, g3, g4⟩ := (sx_S hX hi).1
  have hrec : ∃ cell : Cell, H[G.2.2.2.1 (3 + i)]? = some cell ∧ cell.vm.isStatics = false ∧ X.2.2.2.2.1.vm.findClass "java/lang/String" = some cell.cls := ⟨cell, by rw [hR.2.2.1 _ (Nat.not_le.mp g4)]; exact g1, g2, g3⟩
  have e1 : xmu G (1000000 + (3 + i)) = G.2.2.2.1 (3 + i) := sx_mu
  rw [hcl] at h8
  refine xrun (va_runV (C := "java/lang/String") (b := G.2.2.2.1 (3 + i)) (As := as.map (xv G)) (rest := rest.map (xv G)) ⟨hX.1, hX.2.1, hX.2.2.1, hX.2.2.2.1, hts⟩ (hc _) ⟨cb, hts _ h7, hts _ h8⟩ ⟨cPre_blind, hrec, fun U hU hW => ⟨by rw [← e1]; rfl, by rw [hU]; exact hR, hX.2.2.2.2.2.1.warm hW⟩⟩ rfl (by rw [List.length_map]; exact hn) hlv.1 (by show st.map (xv G) = _; rw [hst, List.map_append, List.map_reverse, ← e1]; rfl) (lv_room (by rw [xcats]; exact hr8)) hd (xroom hX hm)) hlo ?_
  intro v n' K' I' P' H1 locs1 hp hR1 hlo1
  have k2 := kk v n' K' I' P' hp H1 locs1 ls hR1 hlo1 hlv
  rw [List.map_append] at k2
  cases v <;> exact k2
theorem kx_VS (hi : i < 2) (hX : xAmb G X Y d mc ms) (hY : xpOK Y = true) (hs : xlook Y.2.2.2.2.1 pc = some (.invokevirtual idx, nx, a, cs)) (hl : xLv Y.1.cls idx Y' np) (hcl : Y'.1.cls = "java/lang/String") (hc : kM G d' Y' (.ref (1000000 + (3 + i)) :: as) C I mc' ms' v C I) (hd : d' < d) (hn : as.length = np) (hst : st = as.reverse ++ .ref (1000000 + (3 + i)) :: rest) (hr8 : (rest.map fun v => v.category).sum ≤ 8) (hm : cells + mc' ≤ mc ∧ slots + ms' ≤ ms)
    (kk : A → kW G X Y C I (cells + mc') (slots + ms') nx lv (v.toList ++ rest)) : A → kW G X Y C I cells slots pc lv st :=
  fun a => ax_VS hi hX hY hs hl hcl hc hd hn hst hr8 hm (fun _ _ _ _ _ ⟨h1, h2, h3, h4, h5⟩ => by rw [h1, h2, h3, h4, h5]; exact kk a)
theorem kx_bret (hX : xAmb G X Y d mc ms) (hE : xRet G X Y mc ms (kPo (some (.int 0)) C I)) (hY : xpOK Y = true) (hs : xis Y pc xq_iret = some nx) (ht : Y.2.2.2.1 = some .byte) (hc : cells ≤ mc ∧ slots ≤ ms) : kW G X Y C I cells slots pc lv [.int 0] := by
  obtain ⟨hd, rfl⟩ := xis_dec (ins := .ireturn) hY hs (fun i h => by cases i <;> first | rfl | cases h) (by decide)
  intro H locs ls hR hlo hlv
  rw [hE.1]
  refine W.widen hc.1 hc.2 ?_
  exact W.zret (ty := .byte) hX.1 hX.2.1 (hE.2.1.trans ht) rfl (fun t hT _ => ⟨some (.int 0), _, _, _, _, rfl, ⟨rfl, rfl, rfl, rfl, rfl⟩, by rw [hT]; exact hR⟩) hlo hd hE.2.2
theorem s_Str_coder (hi : i < 2) : kM G d m_Str_coder [.ref (1000000 + (3 + i))] C I 0 0 (some (.int 0)) C I := by
  refine kM.of (A := True) (by decide +kernel) (Nat.le_of_ble_eq_true rfl) (lv := [.ref (1000000 + (3 + i))]) rfl (fun X hX hE => ?_) trivial
  refine kx_cs hX ok_Str_coder rfl (nx := 3) rfl ?_
  refine kx_go 1 (pc' := if (1 : Int32) = 0 then 13 else 6) (lv' := [.ref (1000000 + (3 + i))]) (st' := []) hX ok_Str_coder rfl ?_
  refine kx_no (by decide) ?_
  refine kx_go 1 (pc' := 7) (lv' := [.ref (1000000 + (3 + i))]) (st' := [.ref (1000000 + (3 + i))]) hX ok_Str_coder rfl ?_
  refine kx_sco hi hX ok_Str_coder rfl (nx := 10) rfl ?_
  refine kx_go 1 (pc' := 14) (lv' := [.ref (1000000 + (3 + i))]) (st' := [.int 0]) hX ok_Str_coder rfl ?_
  exact fun _ => kx_bret hX hE ok_Str_coder (nx := 15) rfl rfl ⟨Nat.le_refl _, Nat.le_refl _⟩
theorem s_Str_isLatin1 (hi : i < 2) : kM G d m_Str_isLatin1 [.ref (1000000 + (3 + i))] C I 0 0 (some (.int 1)) C I := by
  refine kM.of (A := True) (by decide +kernel) (Nat.le_of_ble_eq_true rfl) (lv := [.ref (1000000 + (3 + i))]) rfl (fun X hX hE => ?_) trivial
  refine kx_cs hX ok_Str_isLatin1 rfl (nx := 3) rfl ?_
  refine kx_go 1 (pc' := if (1 : Int32) = 0 then 17 else 6) (lv' := [.ref (1000000 + (3 + i))]) (st' := []) hX ok_Str_isLatin1 rfl ?_
  refine kx_no (by decide) ?_
  refine kx_go 1 (pc' := 7) (lv' := [.ref (1000000 + (3 + i))]) (st' := [.ref (1000000 + (3 + i))]) hX ok_Str_isLatin1 rfl ?_
  refine kx_sco hi hX ok_Str_isLatin1 rfl (nx := 10) rfl ?_
  refine kx_go 1 (pc' := if (0 : Int32) = 0 then 13 else 17) (lv' := [.ref (1000000 + (3 + i))]) (st' := []) hX ok_Str_isLatin1 rfl ?_
  refine kx_yes rfl ?_
  refine kx_go 2 (pc' := 18) (lv' := [.ref (1000000 + (3 + i))]) (st' := [.int 1]) hX ok_Str_isLatin1 rfl ?_
  exact fun _ => kx_zret hX hE ok_Str_isLatin1 (nx := 19) rfl rfl (Or.inr rfl) ⟨Nat.le_refl _, Nat.le_refl _⟩
theorem sx_sh : ∀ i, i < 2 → (nI (sxN i) >>> ((0 : Int32) &&& 31)) = nI (sxN i) := by decide +kernel
theorem s_Str_length (hd1 : 0 < d) (hi : i < 2) : kM G d m_Str_length [.ref (1000000 + (3 + i))] C I 0 0 (some (.int (nI (sxN i)))) C I := by
  refine kM.of (A := True) (by decide +kernel) (Nat.le_of_ble_eq_true rfl) (lv := [.ref (1000000 + (3 + i))]) rfl (fun X hX hE => ?_) trivial
  refine kx_go 1 (pc' := 1) (lv' := [.ref (1000000 + (3 + i))]) (st' := [.ref (1000000 + (3 + i))]) hX ok_Str_length rfl ?_
  refine kx_sva hi hX ok_Str_length rfl (nx := 4) rfl ?_
  refine kx_sle hi hX ok_Str_length (nx := 5) rfl ?_
  refine kx_go 1 (pc' := 6) (lv' := [.ref (1000000 + (3 + i))]) (st' := [.ref (1000000 + (3 + i)), .int (nI (sxN i))]) hX ok_Str_length rfl ?_
  refine kx_VS (as := []) hi hX ok_Str_length (nx := 9) rfl l_Str_335 rfl (s_Str_coder (d := 0) hi) hd1 rfl (rest := [.int (nI (sxN i))]) rfl (Nat.le_of_ble_eq_true rfl) ⟨Nat.le_refl _, Nat.le_refl _⟩ ?_
  show _ → kW G X m_Str_length C I 0 0 9 [.ref (1000000 + (3 + i))] [.int 0, .int (nI (sxN i))]
  refine kx_go 1 (pc' := 10) (lv' := [.ref (1000000 + (3 + i))]) (st' := [.int (nI (sxN i) >>> ((0 : Int32) &&& 31))]) hX ok_Str_length rfl ?_
  rw [sx_sh i hi]
  exact fun _ => kx_iret hX hE ok_Str_length (nx := 11) rfl rfl ⟨Nat.le_refl _, Nat.le_refl _⟩
theorem s_canNo (h : ch < 0 ∨ 255 < ch) : kM G d m_Lat_canEncode [.int ch] C I 0 0 (some (.int 0)) C I := by
  refine kM.of (A := True) (by decide +kernel) (Nat.le_of_ble_eq_true rfl) (lv := [.int ch]) rfl (fun X hX hE => ?_) trivial
  refine kx_go 2 (pc' := if ch < 0 then 15 else 4) (lv' := [.int ch]) (st' := []) hX ok_Lat_canEncode rfl ?_
  have fin : True → kW G X m_Lat_canEncode C I 0 0 15 [.int ch] [] := by
    refine kx_go 1 (pc' := 16) (lv' := [.int ch]) (st' := [.int 0]) hX ok_Lat_canEncode rfl ?_
    exact fun _ => kx_zret hX hE ok_Lat_canEncode (nx := 17) rfl rfl (Or.inl rfl) ⟨Nat.le_refl _, Nat.le_refl _⟩
  by_cases h0 : ch < 0
  · exact kx_yes h0 fin
  · refine kx_no h0 ?_
    refine kx_go 3 (pc' := if (255 : Int32) < ch then 15 else 11) (lv' := [.int ch]) (st' := []) hX ok_Lat_canEncode rfl ?_
    exact kx_yes (h.resolve_left h0) fin
theorem s_canYes (h0 : ¬ ch < 0) (h1 : ¬ 255 < ch) : kM G d m_Lat_canEncode [.int ch] C I 0 0 (some (.int 1)) C I := by
  refine kM.of (A := True) (by decide +kernel) (Nat.le_of_ble_eq_true rfl) (lv := [.int ch]) rfl (fun X hX hE => ?_) trivial
  refine kx_go 2 (pc' := if ch < 0 then 15 else 4) (lv' := [.int ch]) (st' := []) hX ok_Lat_canEncode rfl ?_
  refine kx_no h0 ?_
  refine kx_go 3 (pc' := if (255 : Int32) < ch then 15 else 11) (lv' := [.int ch]) (st' := []) hX ok_Lat_canEncode rfl ?_
  refine kx_no h1 ?_
  refine kx_go 2 (pc' := 16) (lv' := [.int ch]) (st' := [.int 1]) hX ok_Lat_canEncode rfl ?_
  exact fun _ => kx_zret hX hE ok_Lat_canEncode (nx := 17) rfl rfl (Or.inr rfl) ⟨Nat.le_refl _, Nat.le_refl _⟩
/-- the loop of indexOfChar: one turn, and its two ends -/
theorem sx_it {j : Nat} {x w : Int32} (hi : i < 2) (hj : j < sxN i) (hx : ¬ x < 0) (hxj : x.toNatClampNeg = j) (hw : ¬ w ≤ x) (hX : xAmb G X m_Lat_indexOfChar d mc ms) {c8 : Int32}
    (k1 : sxB i j = c8 → A → kW G X m_Lat_indexOfChar C I cells slots 24 [.ref (1000000 + (5 + i)), .int ch, .int 0, .int w, .int c8, .int x] [.int x])
    (k2 : ¬ sxB i j = c8 → A → kW G X m_Lat_indexOfChar C I cells slots 7 [.ref (1000000 + (5 + i)), .int ch, .int 0, .int w, .int c8, .int (x + 1)] []) :
    A → kW G X m_Lat_indexOfChar C I cells slots 7 [.ref (1000000 + (5 + i)), .int ch, .int 0, .int w, .int c8, .int x] [] := by
  refine kx_go 3 (pc' := if w ≤ x then 31 else 13) (lv' := [.ref (1000000 + (5 + i)), .int ch, .int 0, .int w, .int c8, .int x]) (st' := []) hX ok_Lat_indexOfChar rfl ?_
  refine kx_no hw ?_
  refine kx_go 2 (pc' := 16) (lv' := [.ref (1000000 + (5 + i)), .int ch, .int 0, .int w, .int c8, .int x]) (st' := [.int x, .ref (1000000 + (5 + i))]) hX ok_Lat_indexOfChar rfl ?_
  refine kx_sba hi hj hx hxj hX ok_Lat_indexOfChar (nx := 17) rfl ?_
  refine kx_go 2 (pc' := if sxB i j = c8 then 22 else 25) (lv' := [.ref (1000000 + (5 + i)), .int ch, .int 0, .int w, .int c8, .int x]) (st' := []) hX ok_Lat_indexOfChar rfl ?_
  by_cases hb : sxB i j = c8
  · refine kx_yes hb ?_
    exact kx_go 1 (pc' := 24) (lv' := [.ref (1000000 + (5 + i)), .int ch, .int 0, .int w, .int c8, .int x]) (st' := [.int x]) hX ok_Lat_indexOfChar rfl (k1 hb)
  · refine kx_no hb ?_
    exact kx_go 2 (pc' := 7) (lv' := [.ref (1000000 + (5 + i)), .int ch, .int 0, .int w, .int c8, .int (x + 1)]) (st' := []) hX ok_Lat_indexOfChar rfl (k2 hb)
theorem sx_end {x w c8 : Int32} (hw : w ≤ x) (hX : xAmb G X m_Lat_indexOfChar d mc ms)
    (k1 : A → kW G X m_Lat_indexOfChar C I cells slots 32 [.ref (1000000 + (5 + i)), .int ch, .int 0, .int w, .int c8, .int x] [.int (-1)]) :
    A → kW G X m_Lat_indexOfChar C I cells slots 7 [.ref (1000000 + (5 + i)), .int ch, .int 0, .int w, .int c8, .int x] [] := by
  refine kx_go 3 (pc' := if w ≤ x then 31 else 13) (lv' := [.ref (1000000 + (5 + i)), .int ch, .int 0, .int w, .int c8, .int x]) (st' := []) hX ok_Lat_indexOfChar rfl ?_
  refine kx_yes hw ?_
  exact kx_go 1 (pc' := 32) (lv' := [.ref (1000000 + (5 + i)), .int ch, .int 0, .int w, .int c8, .int x]) (st' := [.int (-1)]) hX ok_Lat_indexOfChar rfl k1
theorem sx_ret {r : Int32} (hX : xAmb G X m_Lat_indexOfChar d 0 0) (hE : xRet G X m_Lat_indexOfChar 0 0 (kPo (some (.int (sxI i ch))) C I)) (hr : sxI i ch = r) (hp : pc = 24 ∨ pc = 32) : A → kW G X m_Lat_indexOfChar C I 0 0 pc lv [.int r] := by
  intro _
  rw [hr] at hE
  rcases hp with rfl | rfl
  · exact kx_iret hX hE ok_Lat_indexOfChar (nx := 25) rfl rfl ⟨Nat.le_refl _, Nat.le_refl _⟩
  · exact kx_iret hX hE ok_Lat_indexOfChar (nx := 33) rfl rfl ⟨Nat.le_refl _, Nat.le_refl _⟩
theorem s_ixChar (hi : i < 2) (h0 : ¬ ch < 0) (h1 : ¬ 255 < ch) : kM G d m_Lat_indexOfChar [.ref (1000000 + (5 + i)), .int ch, .int 0, .int (nI (sxN i))] C I 0 0 (some (.int (sxI i ch))) C I := by
  refine kM.of (A := True) (by decide +kernel) (Nat.le_of_ble_eq_true rfl) (lv := [.ref (1000000 + (5 + i)), .int ch, .int 0, .int (nI (sxN i)), .null, .null]) rfl (fun X hX hE => ?_) trivial
  refine kx_go 5 (pc' := 7) (lv' := [.ref (1000000 + (5 + i)), .int ch, .int 0, .int (nI (sxN i)), .int ch.toInt8.toInt32, .int 0]) (st' := []) hX ok_Lat_indexOfChar rfl ?_
  have ey : ∀ j, j < sxN i → sxB i j = ch.toInt8.toInt32 → ch = sxB i j := fun j hj h => (sx_eq hi hj h0 h1).mp h
  have en : ∀ j, j < sxN i → ¬ sxB i j = ch.toInt8.toInt32 → ¬ ch = sxB i j := fun j hj h e => h ((sx_eq hi hj h0 h1).mpr e)
  rcases (show i = 0 ∨ i = 1 by omega) with rfl | rfl
  · refine sx_it (j := 0) hi (by decide) (by decide) (by decide) (by decide) hX (fun b0 => sx_ret hX hE (by rw [ey 0 (by decide) b0]; decide +kernel) (Or.inl rfl)) (fun b0 => ?_)
    refine sx_it (j := 1) hi (by decide) (by decide) (by decide) (by decide) hX (fun b1 => sx_ret hX hE (by rw [ey 1 (by decide) b1]; decide +kernel) (Or.inl rfl)) (fun b1 => ?_)
    refine sx_it (j := 2) hi (by decide) (by decide) (by decide) (by decide) hX (fun b2 => sx_ret hX hE (by rw [ey 2 (by decide) b2]; decide +kernel) (Or.inl rfl)) (fun b2 => ?_)
    refine sx_it (j := 3) hi (by decide) (by decide) (by decide) (by decide) hX (fun b3 => sx_ret hX hE (by rw [ey 3 (by decide) b3]; decide +kernel) (Or.inl rfl)) (fun b3 => ?_)
    refine sx_end (by decide) hX (sx_ret hX hE ?_ (Or.inr rfl))
    have n0 : ¬ ch = 99 := en 0 (by decide) b0
    have n1 : ¬ ch = 109 := en 1 (by decide) b1
    have n2 : ¬ ch = 107 := en 2 (by decide) b2
    have n3 : ¬ ch = 104 := en 3 (by decide) b3
    unfold sxI sidx
    rw [if_pos (show 1000003 + 0 = 1000003 from rfl), if_neg n0, if_neg n1, if_neg n2, if_neg n3]
  · refine sx_it (j := 0) hi (by decide) (by decide) (by decide) (by decide) hX (fun b0 => sx_ret hX hE (by rw [ey 0 (by decide) b0]; decide +kernel) (Or.inl rfl)) (fun b0 => ?_)
    refine sx_it (j := 1) hi (by decide) (by decide) (by decide) (by decide) hX (fun b1 => sx_ret hX hE (by rw [ey 1 (by decide) b1]; decide +kernel) (Or.inl rfl)) (fun b1 => ?_)
    refine sx_it (j := 2) hi (by decide) (by decide) (by decide) (by decide) hX (fun b2 => sx_ret hX hE (by rw [ey 2 (by decide) b2]; decide +kernel) (Or.inl rfl)) (fun b2 => ?_)
    refine sx_end (by decide) hX (sx_ret hX hE ?_ (Or.inr rfl))
    have n0 : ¬ ch = 119 := en 0 (by decide) b0
    have n1 : ¬ ch = 107 := en 1 (by decide) b1
    have n2 : ¬ ch = 99 := en 2 (by decide) b2
    unfold sxI sidx
    rw [if_neg (show ¬ 1000003 + 1 = 1000003 by decide), if_neg n0, if_neg n1, if_neg n2]
theorem sx_lt : ∀ i, i < 2 → (0 : Int32) < nI (sxN i) ∧ mmin (nI (sxN i)) (nI (sxN i)) = nI (sxN i) := by decide +kernel
theorem s_Lat_indexOf (hd1 : 0 < d) (hi : i < 2) : kM G d m_Lat_indexOf [.ref (1000000 + (5 + i)), .int ch, .int 0, .int (nI (sxN i))] C I 0 0 (some (.int (sxI i ch))) C I := by
  refine kM.of (A := True) (by decide +kernel) (Nat.le_of_ble_eq_true rfl) (lv := [.ref (1000000 + (5 + i)), .int ch, .int 0, .int (nI (sxN i))]) rfl (fun X hX hE => ?_) trivial
  refine kx_go 1 (pc' := 1) (lv' := [.ref (1000000 + (5 + i)), .int ch, .int 0, .int (nI (sxN i))]) (st' := [.int ch]) hX ok_Lat_indexOf rfl ?_
  by_cases h : ch < 0 ∨ 255 < ch
  · refine kx_S (as := [.int ch]) hX ok_Lat_indexOf (nx := 4) rfl l_Lat_88 (fun _ => s_canNo (d := 0) h) hd1 rfl (rest := []) rfl (Nat.le_of_ble_eq_true rfl) ⟨Nat.le_refl _, Nat.le_refl _⟩ ?_
    show _ → kW G X m_Lat_indexOf C I 0 0 4 [.ref (1000000 + (5 + i)), .int ch, .int 0, .int (nI (sxN i))] [.int 0]
    refine kx_go 1 (pc' := if (0 : Int32) = 0 then 7 else 9) (lv' := [.ref (1000000 + (5 + i)), .int ch, .int 0, .int (nI (sxN i))]) (st' := []) hX ok_Lat_indexOf rfl ?_
    refine kx_yes rfl ?_
    refine kx_go 1 (pc' := 8) (lv' := [.ref (1000000 + (5 + i)), .int ch, .int 0, .int (nI (sxN i))]) (st' := [.int (-1)]) hX ok_Lat_indexOf rfl ?_
    rw [sx_out hi h] at hE
    exact fun _ => kx_iret hX hE ok_Lat_indexOf (nx := 9) rfl rfl ⟨Nat.le_refl _, Nat.le_refl _⟩
  · have h0 : ¬ ch < 0 := fun q => h (Or.inl q)
    have h1 : ¬ 255 < ch := fun q => h (Or.inr q)
    refine kx_S (as := [.int ch]) hX ok_Lat_indexOf (nx := 4) rfl l_Lat_88 (fun _ => s_canYes (d := 0) h0 h1) hd1 rfl (rest := []) rfl (Nat.le_of_ble_eq_true rfl) ⟨Nat.le_refl _, Nat.le_refl _⟩ ?_
    show _ → kW G X m_Lat_indexOf C I 0 0 4 [.ref (1000000 + (5 + i)), .int ch, .int 0, .int (nI (sxN i))] [.int 1]
    refine kx_go 1 (pc' := if (1 : Int32) = 0 then 7 else 9) (lv' := [.ref (1000000 + (5 + i)), .int ch, .int 0, .int (nI (sxN i))]) (st' := []) hX ok_Lat_indexOf rfl ?_
    refine kx_no (by decide) ?_
    refine kx_go 2 (pc' := 11) (lv' := [.ref (1000000 + (5 + i)), .int ch, .int 0, .int (nI (sxN i))]) (st' := [.int 0, .int 0]) hX ok_Lat_indexOf rfl ?_
    refine kx_max hd1 ⟨Nat.le_refl _, Nat.le_refl _⟩ hX ok_Lat_indexOf (nx := 14) rfl l_Lat_92 (Nat.le_of_ble_eq_true rfl) ?_
    rw [show mmax 0 0 = 0 from by decide]
    refine kx_go 3 (pc' := 17) (lv' := [.ref (1000000 + (5 + i)), .int ch, .int 0, .int (nI (sxN i))]) (st' := [.ref (1000000 + (5 + i)), .int (nI (sxN i))]) hX ok_Lat_indexOf rfl ?_
    refine kx_sle hi hX ok_Lat_indexOf (nx := 18) rfl ?_
    refine kx_min hd1 ⟨Nat.le_refl _, Nat.le_refl _⟩ hX ok_Lat_indexOf (nx := 21) rfl l_Lat_38 (Nat.le_of_ble_eq_true rfl) ?_
    rw [(sx_lt i hi).2]
    refine kx_go 4 (pc' := if (0 : Int32) < nI (sxN i) then 29 else 27) (lv' := [.ref (1000000 + (5 + i)), .int ch, .int 0, .int (nI (sxN i))]) (st' := []) hX ok_Lat_indexOf rfl ?_
    refine kx_yes (sx_lt i hi).1 ?_
    refine kx_go 4 (pc' := 33) (lv' := [.ref (1000000 + (5 + i)), .int ch, .int 0, .int (nI (sxN i))]) (st' := [.int (nI (sxN i)), .int 0, .int ch, .ref (1000000 + (5 + i))]) hX ok_Lat_indexOf rfl ?_
    refine kx_S (as := [.ref (1000000 + (5 + i)), .int ch, .int 0, .int (nI (sxN i))]) hX ok_Lat_indexOf (nx := 36) rfl l_Lat_95 (fun _ => s_ixChar (d := 0) hi h0 h1) hd1 rfl (rest := []) rfl (Nat.le_of_ble_eq_true rfl) ⟨Nat.le_refl _, Nat.le_refl _⟩ ?_
    exact fun _ => kx_iret hX hE ok_Lat_indexOf (nx := 37) rfl rfl ⟨Nat.le_refl _, Nat.le_refl _⟩
theorem s_Str_ix2 (hd3 : 2 < d) (hi : i < 2) : kM G d m_Str_indexOf_ [.ref (1000000 + (3 + i)), .int ch, .int 0] C I 0 0 (some (.int (sxI i ch))) C I := by
  refine kM.of (A := True) (by decide +kernel) (Nat.le_of_ble_eq_true rfl) (lv := [.ref (1000000 + (3 + i)), .int ch, .int 0]) rfl (fun X hX hE => ?_) trivial
  refine kx_go 1 (pc' := 1) (lv' := [.ref (1000000 + (3 + i)), .int ch, .int 0]) (st' := [.ref (1000000 + (3 + i))]) hX ok_Str_indexOf_ rfl ?_
  refine kx_VS (as := []) hi hX ok_Str_indexOf_ (nx := 4) rfl l_Str_492 rfl (s_Str_isLatin1 (d := 0) hi) (by omega) rfl (rest := []) rfl (Nat.le_of_ble_eq_true rfl) ⟨Nat.le_refl _, Nat.le_refl _⟩ ?_
  show _ → kW G X m_Str_indexOf_ C I 0 0 4 [.ref (1000000 + (3 + i)), .int ch, .int 0] [.int 1]
  refine kx_go 1 (pc' := if (1 : Int32) = 0 then 23 else 7) (lv' := [.ref (1000000 + (3 + i)), .int ch, .int 0]) (st' := []) hX ok_Str_indexOf_ rfl ?_
  refine kx_no (by decide) ?_
  refine kx_go 1 (pc' := 8) (lv' := [.ref (1000000 + (3 + i)), .int ch, .int 0]) (st' := [.ref (1000000 + (3 + i))]) hX ok_Str_indexOf_ rfl ?_
  refine kx_sva hi hX ok_Str_indexOf_ rfl (nx := 11) rfl ?_
  refine kx_go 3 (pc' := 14) (lv' := [.ref (1000000 + (3 + i)), .int ch, .int 0]) (st' := [.ref (1000000 + (3 + i)), .int 0, .int ch, .ref (1000000 + (5 + i))]) hX ok_Str_indexOf_ rfl ?_
  refine kx_VS (as := []) hi hX ok_Str_indexOf_ (nx := 17) rfl l_Str_505 rfl (s_Str_length (d := 1) (by omega) hi) (by omega) rfl (rest := [.int 0, .int ch, .ref (1000000 + (5 + i))]) rfl (Nat.le_of_ble_eq_true rfl) ⟨Nat.le_refl _, Nat.le_refl _⟩ ?_
  show _ → kW G X m_Str_indexOf_ C I 0 0 17 [.ref (1000000 + (3 + i)), .int ch, .int 0] [.int (nI (sxN i)), .int 0, .int ch, .ref (1000000 + (5 + i))]
  refine kx_S (as := [.ref (1000000 + (5 + i)), .int ch, .int 0, .int (nI (sxN i))]) hX ok_Str_indexOf_ (nx := 20) rfl l_Str_637 (fun _ => s_Lat_indexOf (d := 1) (by omega) hi) (by omega) rfl (rest := []) rfl (Nat.le_of_ble_eq_true rfl) ⟨Nat.le_refl _, Nat.le_refl _⟩ ?_
  show _ → kW G X m_Str_indexOf_ C I 0 0 20 [.ref (1000000 + (3 + i)), .int ch, .int 0] [.int (sxI i ch)]
  refine kx_go 1 (pc' := 36) (lv' := [.ref (1000000 + (3 + i)), .int ch, .int 0]) (st' := [.int (sxI i ch)]) hX ok_Str_indexOf_ rfl ?_
  exact fun _ => kx_iret hX hE ok_Str_indexOf_ (nx := 37) rfl rfl ⟨Nat.le_refl _, Nat.le_refl _⟩
theorem s_Str_ix (hd4 : 3 < d) (hi : i < 2) : kM G d m_Str_indexOf [.ref (1000000 + (3 + i)), .int ch] C I 0 0 (some (.int (sxI i ch))) C I := by
  refine kM.of (A := True) (by decide +kernel) (Nat.le_of_ble_eq_true rfl) (lv := [.ref (1000000 + (3 + i)), .int ch]) rfl (fun X hX hE => ?_) trivial
  refine kx_go 3 (pc' := 3) (lv' := [.ref (1000000 + (3 + i)), .int ch]) (st' := [.int 0, .int ch, .ref (1000000 + (3 + i))]) hX ok_Str_indexOf rfl ?_
  refine kx_VS (as := [.int ch, .int 0]) hi hX ok_Str_indexOf (nx := 6) rfl l_Str_633 rfl (s_Str_ix2 (d := 3) (by omega) hi) (by omega) rfl (rest := []) rfl (Nat.le_of_ble_eq_true rfl) ⟨Nat.le_refl _, Nat.le_refl _⟩ ?_
  exact fun _ => kx_iret hX hE ok_Str_indexOf (nx := 7) rfl rfl ⟨Nat.le_refl _, Nat.le_refl _⟩
theorem kx_idx {dn : Nat} (hd1 : 6 < d) (hdn : dn = 1000003 ∨ dn = 1000004) (hroom : cells ≤ mc ∧ slots ≤ ms) (hX : xAmb G X Y d mc ms) (hY : xpOK Y = true) (hs : xlook Y.2.2.2.2.1 pc = some (.invokevirtual idx, nx, a, cs)) (hl : xLv Y.1.cls idx m_Str_indexOf 1) (hr8 : (st.map fun v => v.category).sum ≤ 8)
    (kk : A → kW G X Y C I cells slots nx lv (.int (sidx dn ch) :: st)) : A → kW G X Y C I cells slots pc lv (.int ch :: .ref dn :: st) := by
  rcases hdn with rfl | rfl
  · exact kx_VS (i := 0) (as := [.int ch]) (by omega) hX hY hs hl rfl (s_Str_ix (d := 4) (by omega) (by omega)) (by omega) rfl (rest := st) rfl hr8 hroom kk
  · exact kx_VS (i := 1) (as := [.int ch]) (by omega) hX hY hs hl rfl (s_Str_ix (d := 4) (by omega) (by omega)) (by omega) rfl (rest := st) rfl hr8 hroom kk
end SX
end
section
/-! multianewarray: four rows of forty ints -/
def mgO (c : ClassId) (h i : Nat) : Cell := arrV c 4 (fun j => if j < i then .ref (h + 1 + j) else .null)
def mgI (k : ClassId) : Cell := arrV k 40 (fun _ => .int 0)
def mgF (s : State) (c k : ClassId) : Nat → State
  | 0 => s.pushCell (mgO c s.heap.size 0)
  | i + 1 => ((mgF s c k i).pushCell (mgI k)).setCell s.heap.size ((mgO c s.heap.size i).setSlot i (.ref (s.heap.size + 1 + i)))
theorem mgO_step (c : ClassId) (h i : Nat) : (mgO c h i).setSlot i (.ref (h + 1 + i)) = mgO c h (i + 1) := by
  unfold mgO
  rw [arrV_store]
  congr 1
  funext j
  unfold updV
  by_cases e : j = i
  · subst e; rw [if_pos rfl, if_pos (by omega)]
  · by_cases hj : j < i
    · rw [if_neg e]
      show (if j < i then Value.ref (h + 1 + j) else Value.null) = if j < i + 1 then Value.ref (h + 1 + j) else Value.null
      rw [if_pos hj, if_pos (by omega)]
    · rw [if_neg e]
      show (if j < i then Value.ref (h + 1 + j) else Value.null) = if j < i + 1 then Value.ref (h + 1 + j) else Value.null
      rw [if_neg hj, if_neg (by omega)]
theorem mgF_facts (s : State) (c k : ClassId) (i : Nat) : (mgF s c k i).heap.size = s.heap.size + 1 + i ∧ (mgF s c k i).heap[s.heap.size]? = some (mgO c s.heap.size i) ∧ (mgF s c k i).vm = s.vm ∧ (mgF s c k i).slotsUsed = s.slotsUsed + 4 + i * 40 ∧ (∀ j, j < i → (mgF s c k i).heap[s.heap.size + 1 + j]? = some (mgI k)) ∧ ∀ q, q < s.heap.size → (mgF s c k i).heap[q]? = s.heap[q]? := by
  induction i with
  | zero =>
    refine ⟨?_, ?_, rfl, ?_, fun j hj => absurd hj (Nat.not_lt_zero _), fun q hq => ?_⟩
    · show (s.heap.push _).size = _
      rw [Array.size_push]
    · show (s.heap.push _)[s.heap.size]? = _
      rw [Array.getElem?_push_size]
    · show s.slotsUsed + (mgO c s.heap.size 0).slots.size = _
      unfold mgO
      rw [arrV_size]
    · show (s.heap.push _)[q]? = _
      rw [Array.getElem?_push, if_neg (Nat.ne_of_lt hq)]
  | succ i ih =>
    obtain ⟨f1, f2, f3, f4, f5, f6⟩ := ih
    have e : (mgF s c k (i + 1)).heap = ((mgF s c k i).heap.push (mgI k)).setIfInBounds s.heap.size (mgO c s.heap.size (i + 1)) := by rw [← mgO_step]; rfl
    refine ⟨?_, ?_, f3, ?_, fun j hj => ?_, fun q hq => ?_⟩
    · rw [e, Array.size_setIfInBounds, Array.size_push, f1]; omega
    · rw [e, Array.getElem?_setIfInBounds, if_pos rfl, Array.size_push, if_pos (by omega)]
    · show (mgF s c k i).slotsUsed + (mgI k).slots.size = _
      unfold mgI
      rw [arrV_size, f4]
      omega
    · rw [e, Array.getElem?_setIfInBounds, if_neg (by omega), Array.getElem?_push]
      by_cases hji : j = i
      · subst hji; rw [if_pos (by omega)]
      · rw [if_neg (by omega)]; exact f5 j (by omega)
    · rw [e, Array.getElem?_setIfInBounds, if_neg (by omega), Array.getElem?_push, if_neg (by omega)]
      exact f6 q hq
theorem mgF_top (s : State) (f : JFrame) (c k : ClassId) (i : Nat) : mgF (s.setTop f) c k i = (mgF s c k i).setTop f := by
  induction i with
  | zero => rfl
  | succ i ih => simp only [mgF, ih, State.heap_setTop, State.pushCell_setTop, State.setCell_setTop]
section MG
variable {E : CtlPost} {e : Env} {d : Bool} {acts : List Action} {s : State}
/-- the machine's newArray, of default values -/
theorem mg_new {c comp : ClassId} {k : Class} {ty : FieldType} {len : Nat} {v : Value} (hk : s.vm.classes[c]? = some k) (hkind : k.kind = .array comp ty) (hl : ¬ len > e.platform.arrayLengthLimit) (hh : ¬ len * componentBytes ty > e.platform.maxHeapBytes) (hf : fits ty v = true) (hv : v.isDefault = true) {Q : Addr → Pre} (h1 : s.heap.size < e.platform.maxCells) (h2 : s.slotsUsed + len ≤ e.platform.maxSlots)
    (hq : Q s.heap.size d acts (s.pushCell (arrV c len (fun _ => v)))) : wp (Jvm.newArray c len v) Q E e d acts s := by
  have hfit : ∀ i x, (Array.replicate len v)[i]? = some x → s.fitsSlot c .none i x = true := by
    intro i x hx
    have hx2 : x = v := by
      rw [Array.getElem?_replicate] at hx
      split at hx
      · exact (Option.some.inj hx).symm
      · cases hx
    subst hx2
    simp [State.fitsSlot, State.slotType?, hk, hkind, hf]
  have hact : allocActs (Array.replicate len v) s.heap.size acts = acts := by
    unfold allocActs
    rw [if_pos]
    rw [Array.all_replicate]
    split
    · rfl
    · exact hv
  rw [← arrV_new] at hq
  simp only [Jvm.newArray, Jvm.arrayFits, wp_bind', W.ask, W.ite, hl, if_false, wp_pure', W.theClass, hk, hkind, hh, W.alloc, W.stop, Option.some.injEq, exists_eq_left', Array.size_replicate, hact]
  rw [if_neg (by omega)]
  exact ⟨h1, h2, hfit, hq⟩
theorem mg_row {c cc : ClassId} {k : Class} (hk : s.vm.classes[c]? = some k) (hkind : k.kind = .array cc .int) (hl : ¬ 40 > e.platform.arrayLengthLimit) (hh : ¬ 160 > e.platform.maxHeapBytes) {Q : Addr → Pre} (h1 : s.heap.size < e.platform.maxCells) (h2 : s.slotsUsed + 40 ≤ e.platform.maxSlots) (hq : Q s.heap.size d acts (s.pushCell (mgI c))) : wp (multianewarray.make c [40]) Q E e d acts s := by
  rw [multianewarray.make]
  simp only [wp_bind', W.ite, show ¬ (40 : Int32) < 0 by decide, if_false, wp_pure', W.theClass, hk, hkind, Option.some.injEq, exists_eq_left']
  exact mg_new hk hkind hl hh rfl rfl h1 h2 hq
theorem mg_make {c k cc : ClassId} {kA kC : Class} (hA : s.vm.classes[c]? = some kA) (hkA : kA.kind = .array k (.array .int)) (hC : s.vm.classes[k]? = some kC) (hkC : kC.kind = .array cc .int) (hl4 : ¬ 4 > e.platform.arrayLengthLimit) (hh4 : ¬ 16 > e.platform.maxHeapBytes) (hl : ¬ 40 > e.platform.arrayLengthLimit) (hh : ¬ 160 > e.platform.maxHeapBytes)
    (h1 : s.heap.size + 5 ≤ e.platform.maxCells) (h2 : s.slotsUsed + 164 ≤ e.platform.maxSlots) {Q : Addr → Pre} (hq : ∀ d' acts', Q s.heap.size d' acts' (mgF s c k 4)) : wp (multianewarray.make c [4, 40]) Q E e d acts s := by
  have hfind : (([40] : List Int32).find? (· < 0)) = none := by decide
  rw [multianewarray.make]
  simp only [wp_bind', W.ite, show ¬ (4 : Int32) < 0 by decide, if_false, wp_pure', W.theClass, hA, hkA, Option.some.injEq, exists_eq_left']
  refine mg_new hA hkA hl4 hh4 rfl rfl (by omega) (by show s.slotsUsed + 4 ≤ _; omega) ?_
  simp only [hfind]
  rw [ite_self, wp_bind', Std.Legacy.Range.forIn_eq_forIn_range']
  show wp (forIn (List.range' 0 4 1) PUnit.unit _) _ E e d acts (mgF s c k 0)
  refine wp_forIn_inv (fun rest s' => ∃ i, i ≤ 4 ∧ rest = List.range' i (4 - i) ∧ s' = mgF s c k i) _ _ ⟨0, by omega, rfl, rfl⟩ ?_ ?_
  · rintro x rest s' d' acts' Q' ⟨i, hi, hl', rfl⟩ hnext
    have hlt : i < 4 := by
      rcases Nat.lt_or_ge i 4 with q | q
      · exact q
      · rw [show 4 - i = 0 by omega] at hl'; cases hl'
    rw [show 4 - i = (4 - (i + 1)) + 1 by omega, List.range'_succ] at hl'
    obtain ⟨rfl, rfl⟩ := List.cons.inj hl'
    obtain ⟨f1, f2, f3, f4, -, -⟩ := mgF_facts s c k x
    simp only [wp_bind']
    refine mg_row (by rw [f3]; exact hC) hkC hl hh (by rw [f1]; omega) (by rw [f4]; omega) ?_
    simp only [wp_bind', W.writeLoc, wp_pure']
    refine ⟨mgO c s.heap.size x, ?_, (by intro q; cases q), ?_, ?_, hnext _ _ _ ⟨x + 1, hlt, rfl, ?_⟩⟩
    · show ((mgF s c k x).heap.push _)[s.heap.size]? = _
      rw [Array.getElem?_push, if_neg (by omega)]; exact f2
    · show x < (arrV c 4 _).slots.size
      rw [arrV_size]; exact hlt
    · show State.fitsSlot _ c .none x _ = true
      simp [State.fitsSlot, State.slotType?, f3, hA, hkA, fits]
    · rw [f1]; rfl
  · rintro s' d' acts' ⟨i, hi, hl', rfl⟩
    have hi4 : i = 4 := by
      rcases Nat.lt_or_ge i 4 with q | q
      · rw [show 4 - i = (4 - (i + 1)) + 1 by omega, List.range'_succ] at hl'; cases hl'
      · omega
    subst hi4
    simp only [wp_pure']
    exact hq _ _
end MG
section MGS
variable {p : Program} {l : Launch} {e : Env} {R : Room} {s : State} {m : MethodId} {args : Array Value} {below : List Frame} {meth : Method} {c : Code} {T : State} {H : Heap} {locs : List Loc} {cells slots : Nat} {Q : State → Prop}
theorem mg_stand (X : Stand p l e R s m args below meth c T locs cells slots) (cA k : ClassId) (i : Nat) : Stand p l e R s m args below meth c (mgF T cA k i) (locs ++ (List.range i).map fun j => ⟨T.heap.size, j⟩) (cells + 1 + i) (slots + 4 + i * 40) := by
  induction i with
  | zero =>
    have h := X.pushed (mgO cA T.heap.size 0)
    have e1 : (mgO cA T.heap.size 0).slots.size = 4 := by unfold mgO; rw [arrV_size]
    rw [e1] at h
    simpa [mgF] using h
  | succ i ih =>
    obtain ⟨f1, f2, -, -, -, -⟩ := mgF_facts T cA k i
    have hc : ((mgF T cA k i).pushCell (mgI k)).heap[T.heap.size]? = some (mgO cA T.heap.size i) := by
      show ((mgF T cA k i).heap.push _)[T.heap.size]? = _
      rw [Array.getElem?_push, if_neg (by omega)]; exact f2
    have h := (ih.pushed (mgI k)).stored hc i (.ref (T.heap.size + 1 + i))
    have e1 : (mgI k).slots.size = 40 := by unfold mgI; rw [arrV_size]
    rw [e1] at h
    rw [List.range_succ, List.map_append, ← List.append_assoc, show slots + 4 + (i + 1) * 40 = slots + 4 + i * 40 + 40 by omega]
    exact h
theorem W_multi {cc : ByteArray} (hexec : p.tables.exec = Jvm.exec) (hb : c.code = cc) {own : String} {index : Nat} (hown : s.vm.findClass own = some m.cls) (hclink : (Cond.classLink own index "[[I").before args s = true) (hover : (Cond.arrayOver (.array .int)).before #[] s = true) (harr : (Cond.arrayClass .int).before args s = true)
    {g : JFrame} (hg : g.method = m) (hdg : decode cc g.pc = .ok (.multianewarray index 2, 4)) {rest : List Value} (hstack : g.stack = .int 40 :: .int 4 :: rest) (hcells : cells + 5 ≤ R.cells) (hslots : slots + 164 ≤ R.slots)
    (kk : ∀ (H1 : Heap) (cA k : ClassId), s.vm.findClass "[[I" = some cA → s.vm.findClass "[I" = some k → H1.size = H.size + 5 → H1[H.size]? = some (mgO cA H.size 4) → (∀ j, j < 4 → H1[H.size + 1 + j]? = some (mgI k)) → (∀ q, q < H.size → H1[q]? = H[q]?) →
      W p l e R s m args below meth c H1 (locs ++ (List.range 4).map fun j => ⟨H.size, j⟩) (cells + 5) (slots + 164) Q { g with pc := g.pc + 4, stack := .ref H.size :: rest }) : W p l e R s m args below meth c H locs cells slots Q g := by
  intro T hT X
  subst hT; subst hb; subst hg
  have hpl : e.platform.magicAccessors = ({} : Platform).magicAccessors := by rw [X.admits.platform]
  obtain ⟨comp, cA, kA, hcomp, -, hkA, hkindA, hnameA⟩ := arrayOverA_spec hover
  obtain ⟨comp', kC, cc', hcomp', hkC, hkindC⟩ := Cond.arrayClass_spec harr
  have ec : comp' = comp := Option.some.inj (hcomp'.symm.trans hcomp)
  subst ec
  obtain ⟨c0, hfc0, hcl⟩ := Cond.classLink_spec hown hclink e.platform hpl
  have e0 : c0 = cA := Option.some.inj (hfc0.symm.trans hnameA)
  subst e0
  obtain ⟨hg₁, hwarm₁, hready₁⟩ := State.classEntry (e := e) X.warmed hcl
  generalize T.vm.noted g.method.cls index (.cls c0) = vm₁ at hg₁ hwarm₁ hready₁
  have hal : s.vm.Alike vm₁ := hwarm₁.alike
  obtain ⟨kA₁, hkA₁, heA⟩ := hal.2.2 _ _ hkA
  obtain ⟨kC₁, hkC₁, heC⟩ := hal.2.2 _ _ hkC
  have hkindA₁ : kA₁.kind = .array comp' (.array .int) := by rw [heA]; exact hkindA
  have hkindC₁ : kC₁.kind = .array cc' .int := by rw [heC]; exact hkindC
  have XF := mg_stand (X.noted hwarm₁) c0 comp' 4
  obtain ⟨hr1, hr2⟩ := X.roomAbove hcells hslots
  obtain ⟨f1, f2, f3, f4, f5, f6⟩ := mgF_facts (T.setVm vm₁) c0 comp' 4
  obtain ⟨t', a1, b1⟩ := kk (mgF (T.setVm vm₁) c0 comp' 4).heap c0 comp' hnameA hcomp f1 f2 f5 f6 (mgF (T.setVm vm₁) c0 comp' 4) rfl XF
  refine ⟨t', ?_, b1⟩
  have hlim := Launch.admits_arrayLengthLimit X.admits
  have hmax := Launch.admits_maxHeapBytes X.admits
  jvm_step X.here [hexec, hdg]
  simp only [multianewarray.sem, wp_bind', W.resolveClassAt_links (State.method?_setTop g X.here.top) hg₁]
  rw [W.popN, if_neg (by decide)]
  refine ⟨g, State.topJava?_setTop' (s := T.setVm vm₁) g X.here.top, [.int 4, .int 40], rest, rfl, hstack, ?_⟩
  simp only [List.mapM_cons, List.mapM_nil, wp_bind', wp_pure']
  refine mg_make (kA := kA₁) (kC := kC₁) hkA₁ hkindA₁ hkC₁ hkindC₁ (by rw [hlim]; omega) (by rw [hmax]; omega) (by rw [hlim]; omega) (by rw [hmax]; omega) (by show T.heap.size + 5 ≤ _; omega) (by show T.slotsUsed + 164 ≤ _; omega) (fun d' acts' => ?_)
  have eS : ((T.setTop g).setVm vm₁).setTop { g with stack := rest } = (T.setVm vm₁).setTop { g with stack := rest } := by
    show ((T.setVm vm₁).setTop g).setTop _ = _
    rw [State.setTop_setTop]
  rw [eS, mgF_top]
  simp only [wp_bind', W.mark, W.pushRef, State.topJava?_setTop' _ XF.here.top, Option.some.injEq, exists_eq_left', State.setTop_setTop, State.heap_setTop]
  intro acts
  simp [jvm, XF.here.top]
  exact a1
end MGS
end
section
/-! the start: cells that are made one behind another; K is known ahead, Z are the new cells' ints, O the old ones' -/
def C0 (L : Nat) : HC := (0, fun _ => 0, fun i => 3 + i, fun i => 34 + i, 30, 1000002, L)
def ov (Z O : HI) : HI := fun r => if r < 1000000 then Z r else O r
theorem ov_row {Z O : HI} {r : Nat} {f : Nat → Int32} (h : r < 1000000) : xrow (ov Z O) r f = ov (xrow Z r f) O := by
  funext q
  show (if q = r then f else if q < 1000000 then Z q else O q) = (if q < 1000000 then (if q = r then f else Z q) else O q)
  by_cases hq : q = r
  · subst hq; rw [if_pos rfl, if_pos h, if_pos rfl]
  · rw [if_neg hq, if_neg hq]
theorem ov_u {Z O : HI} {r k : Nat} {v : Int32} (h : r < 1000000) : xu (ov Z O) r k v = ov (xu Z r k v) O := by
  unfold xu
  rw [show ov Z O r = Z r from if_pos h]
  exact ov_row h
def z0 : Nat → Int32 := fun _ => 0
def o0 : Nat → Option Nat := fun _ => none
def mZ (n : Nat) (Z : HI) : HI := fun q => if n ≤ q ∧ q < n + 5 then z0 else Z q
def mP (n : Nat) (P : Nat → Nat → Option Nat) : Nat → Nat → Option Nat := fun q => if q = n then (fun j => if j < 4 then some (n + 1 + j) else none) else if n ≤ q ∧ q < n + 5 then o0 else P q
def nW (G : xG) (X : xC) (Y : MI) (L : Nat) (O : HI) (n : Nat) (Z : HI) (P : Nat → Nat → Option Nat) (cells slots pc : Nat) (lv st : List Value) : Prop := aW G X Y n (kK (C0 L)) (ov Z O) P cells slots pc lv st
def nPo (L : Nat) (O : HI) (n' : Nat) (Z' : HI) (P' : Nat → Nat → Option Nat) : xPost := fun v n1 K1 I1 P1 => v = none ∧ n1 = n' ∧ K1 = kK (C0 L) ∧ I1 = ov Z' O ∧ P1 = P'
def nM (G : xG) (d : Nat) (Y : MI) (as : List Value) (L : Nat) (O : HI) (n : Nat) (Z : HI) (P : Nat → Nat → Option Nat) (mc ms n' : Nat) (Z' : HI) (P' : Nat → Nat → Option Nat) : Prop := cM G d Y as n (kK (C0 L)) (ov Z O) P mc ms (nPo L O n' Z' P')
theorem xR.pushm {G : xG} {n m : Nat} {K : Nat → Nat × Nat} {I I' : Nat → Nat → Int32} {P P' : Nat → Nat → Option Nat} {H H1 : Heap} (h : xR G n K I P H) (hz : H1.size = H.size + m) (ho : ∀ q : Nat, q < H.size → H1[q]? = H[q]?) (he : ∀ j, j < m → va_at G.1 xCl (G.2.2.1 + (n + j), xE G K I' P' (n + j)) H1) (hE : ∀ q, q < n ∨ n + m ≤ q → I' q = I q ∧ P' q = P q) (hn : n + m < 1000000) : xR G (n + m) K I' P' H1 := by
  have hsz := h.1
  refine ⟨by omega, fun k q hk => ?_, fun q hq => (ho q (by omega)).trans (h.2.2.1 q hq), hn, h.2.2.2.2.1, fun j hj => ?_⟩
  · obtain ⟨hl, rfl⟩ := xL_inv hk
    by_cases e : n ≤ k
    · have h2 := he (k - n) (by omega)
      rw [show n + (k - n) = k by omega] at h2
      exact h2
    · have hlt : k < n := by omega
      obtain ⟨e2, e3⟩ := hE k (Or.inl hlt)
      rw [xE_ne (G := G) (K := K) e2 e3]
      exact (h.at hlt).kept (ho _ (by show G.2.2.1 + k < H.size; omega))
  · obtain ⟨h1, h2, h3⟩ := h.2.2.2.2.2 j hj
    obtain ⟨e2, -⟩ := hE (1000000 + j) (Or.inr (by omega))
    refine ⟨h1, h2, ?_⟩
    rw [e2, ho _ (by omega)]
    exact h3
section NX
variable {G : xG} {X : xC} {Y Y' : MI} {d d' mc ms mc' ms' L : Nat} {O : HI} {n n' c' s' : Nat} {Z Z' : HI} {P P' : Nat → Nat → Option Nat} {cells slots pc nx r a idx np : Nat} {cs : List (Int32 × Nat)} {lv st as rest : List Value}
theorem nx_go (j : Nat) {pc' : Nat} {lv' st' : List Value} (hX : xAmb G X Y d mc ms) (hY : xpOK Y = true) (hs : xgo j Y pc lv st = some (pc', lv', st')) (kk : nW G X Y L O n Z P cells slots pc' lv' st') : nW G X Y L O n Z P cells slots pc lv st :=
  ax_go hX hY j pc lv st (pc', lv', st') hs kk
theorem nx_yes {q : Prop} [Decidable q] {b1 b2 : Nat} (hc : q) (kk : nW G X Y L O n Z P cells slots b1 lv st) : nW G X Y L O n Z P cells slots (if q then b1 else b2) lv st := by rw [if_pos hc]; exact kk
theorem nx_no {q : Prop} [Decidable q] {b1 b2 : Nat} (hc : ¬ q) (kk : nW G X Y L O n Z P cells slots b2 lv st) : nW G X Y L O n Z P cells slots (if q then b1 else b2) lv st := by rw [if_neg hc]; exact kk
theorem nx_obj (hX : xAmb G X Y d mc ms) (hY : xpOK Y = true) (hs : xlook Y.2.2.2.2.1 pc = some (.invokespecial idx, nx, a, cs)) (hl : Cond.methodLink Y.1.cls idx Lib.objectInit ∈ xw ∧ Cond.instanceMethod Lib.objectInit ∈ xw ∧ Cond.code Lib.objectInit ⟨#[0xb1]⟩ 1 none ∈ xw) (hd1 : 0 < d) (hr8 : (st.map fun v => v.category).sum ≤ 8)
    (kk : nW G X Y L O n Z P cells slots nx lv st) : nW G X Y L O n Z P cells slots pc lv (.ref r :: st) := ax_obj hX hY hs hl hd1 hr8 kk
theorem nx_new {c w : Nat} (hX : xAmb G X Y d mc ms) (hY : xpOK Y = true) (hs : xlook Y.2.2.2.2.1 pc = some (.new idx, nx, a, cs)) (hc : c < 13) (hw : Cond.classLink Y.1.cls idx (xcn c) ∈ xw ∧ Cond.instantiable (xcn c) (xN c) ∈ xw ∧ Cond.initialized (xcn c) ∈ xw) (hk : kK (C0 L) n = (c, w)) (hn : n < 107) (hm : cells + 1 ≤ mc ∧ slots + xN c ≤ ms) (e : n + 1 = n' ∧ cells + 1 = c' ∧ slots + xN c = s')
    (kk : nW G X Y L O n' (xrow Z n z0) (xprow P n o0) c' s' nx lv (.ref n :: st)) : nW G X Y L O n Z P cells slots pc lv st := by
  obtain ⟨rfl, rfl, rfl⟩ := e
  unfold nW at kk ⊢
  rw [← ov_row (by omega)] at kk
  exact ax_new hX hY hs hc hw hk (fun _ _ => rfl) (by omega) hm kk
theorem nx_newa {c w : Nat} {at_ : ArrayType} {x : Int32} (hX : xAmb G X Y d mc ms) (hY : xpOK Y = true) (hs : xlook Y.2.2.2.2.1 pc = some (.newarray at_, nx, a, cs)) (hat_ : (c = 13 ∧ at_ = .int) ∨ (c = 14 ∧ at_ = .boolean)) (hw : Cond.arrayClass (newarray.typeOf at_) ∈ xw)
    (hx : ¬ x < 0 ∧ x.toNatClampNeg = w ∧ w ≤ 10000) (hk : kK (C0 L) n = (c, w)) (hn : n < 107) (hm : cells + 1 ≤ mc ∧ slots + w ≤ ms) (e : n + 1 = n' ∧ cells + 1 = c' ∧ slots + w = s')
    (kk : nW G X Y L O n' (xrow Z n z0) (xprow P n o0) c' s' nx lv (.ref n :: st)) : nW G X Y L O n Z P cells slots pc lv (.int x :: st) := by
  obtain ⟨rfl, rfl, rfl⟩ := e
  unfold nW at kk ⊢
  rw [← ov_row (by omega)] at kk
  exact ax_newa hX hY hs hat_ hw hx.1 hx.2.1 hx.2.2 hk (fun _ _ => rfl) (by omega) hm kk
theorem nx_newq {c w : Nat} {E : String} {x : Int32} (hX : xAmb G X Y d mc ms) (hY : xpOK Y = true) (hs : xlook Y.2.2.2.2.1 pc = some (.anewarray idx, nx, a, cs)) (hE : (c = 15 ∧ E = "HandOverHorse$Stroke") ∨ (c = 16 ∧ E = "HandOverHorse$Text")) (hw : Cond.classLink Y.1.cls idx E ∈ xw)
    (hx : ¬ x < 0 ∧ x.toNatClampNeg = w ∧ w ≤ 10000) (hk : kK (C0 L) n = (c, w)) (hn : n < 107) (hm : cells + 1 ≤ mc ∧ slots + w ≤ ms) (e : n + 1 = n' ∧ cells + 1 = c' ∧ slots + w = s')
    (kk : nW G X Y L O n' (xrow Z n z0) (xprow P n o0) c' s' nx lv (.ref n :: st)) : nW G X Y L O n Z P cells slots pc lv (.int x :: st) := by
  obtain ⟨rfl, rfl, rfl⟩ := e
  unfold nW at kk ⊢
  rw [← ov_row (by omega)] at kk
  exact ax_newq hX hY hs hE hw hx.1 hx.2.1 hx.2.2 hk (fun _ _ => rfl) (by omega) hm kk
theorem nx_putp {c w k q : Nat} (hX : xAmb G X Y d mc ms) (hY : xpOK Y = true) (hC : Y.1.cls = xcn Y.2.2.2.2.2) (hr : r < n) (hk : kK (C0 L) r = (c, w)) (hs : xpf Y pc c = some (k, nx))
    (hfin : (xTc c k).2.2.2 = false ∨ ((xTc c k).2.2.2 = true ∧ Y.1.name = "<init>" ∧ (xTc c k).1 = Y.1.cls)) (ht : (xty c k).isReference = true) (kk : nW G X Y L O n Z (xup P r k (some q)) cells slots nx lv st) : nW G X Y L O n Z P cells slots pc lv (.ref q :: .ref r :: st) :=
  ax_putp hX hY hC hr hk hs hfin ht kk
theorem nx_puti {c w k : Nat} {x : Int32} (hX : xAmb G X Y d mc ms) (hY : xpOK Y = true) (hC : Y.1.cls = xcn Y.2.2.2.2.2) (hr : r < n) (hr6 : r < 1000000) (hk : kK (C0 L) r = (c, w)) (hs : xpf Y pc c = some (k, nx))
    (hfin : (xTc c k).2.2.2 = false) (ht : xty c k = .int) (kk : nW G X Y L O n (xu Z r k x) P cells slots nx lv st) : nW G X Y L O n Z P cells slots pc lv (.int x :: .ref r :: st) := by
  unfold nW at kk ⊢
  rw [← ov_u hr6] at kk
  exact ax_puti hX hY hC hr hk hs hfin (Or.inl ht) kk
theorem nx_getp {c w k q : Nat} (hX : xAmb G X Y d mc ms) (hY : xpOK Y = true) (hC : Y.1.cls = xcn Y.2.2.2.2.2) (hr : r < n) (hk : kK (C0 L) r = (c, w)) (hs : xgf Y pc c = some (k, nx)) (ht : (xty c k).isReference = true) (hp : P r k = some q)
    (kk : nW G X Y L O n Z P cells slots nx lv (.ref q :: st)) : nW G X Y L O n Z P cells slots pc lv (.ref r :: st) :=
  ax_get (v := .ref q) hX hY hC hr hk hs (xfv_ref ht hp) kk
theorem nx_iast {w j : Nat} {i x : Int32} (hX : xAmb G X Y d mc ms) (hY : xpOK Y = true) (hr : r < n) (hr6 : r < 1000000) (hk : kK (C0 L) r = (13, w)) (hs : xis Y pc xq_iast = some nx) (hi : bnd i w = true) (hj : i.toNatClampNeg = j) (kk : nW G X Y L O n (xu Z r j x) P cells slots nx lv st) : nW G X Y L O n Z P cells slots pc lv (.int x :: .int i :: .ref r :: st) := by
  subst hj
  unfold nW at kk ⊢
  rw [← ov_u hr6] at kk
  exact ax_iast hX hY hr hk hs (bnd_in hi) kk
theorem nx_aast {c w q cq wq j : Nat} {i : Int32} {E : String} (hX : xAmb G X Y d mc ms) (hY : xpOK Y = true) (hr : r < n) (hk : kK (C0 L) r = (c, w)) (hq : q < n) (hkq : kK (C0 L) q = (cq, wq)) (hcq : cq < 13)
    (hE : (c = 15 ∧ E = "HandOverHorse$Stroke") ∨ (c = 16 ∧ E = "HandOverHorse$Text")) (hca : xcn cq = E) (hs : xis Y pc xq_aast = some nx) (hi : bnd i w = true) (hj : i.toNatClampNeg = j) (kk : nW G X Y L O n Z (xup P r j (some q)) cells slots nx lv st) : nW G X Y L O n Z P cells slots pc lv (.ref q :: .int i :: .ref r :: st) := by
  subst hj
  exact ax_aast hX hY hr hk hq hkq hcq hE (Or.inl hca) hs (bnd_in hi) kk
theorem nx_str (hX : xAmb G X Y d mc ms) (hY : xpOK Y = true) (hC : Y.1.cls = "HandOverHorse$Text") (hs : xlook Y.2.2.2.2.1 pc = some (.ldc 24, nx, a, cs)) (kk : nW G X Y L O n Z P cells slots nx lv (.ref 1000002 :: st)) : nW G X Y L O n Z P cells slots pc lv st :=
  ax_str (j := 2) hX hY hC hs hX.2.2.2.2.2.1.2.1.2.2.1 kk
theorem nx_I (hX : xAmb G X Y d mc ms) (hY : xpOK Y = true) (hs : xlook Y.2.2.2.2.1 pc = some (.invokespecial idx, nx, a, cs)) (hl : xLi Y.1.cls idx Y' np) (hret : Y'.2.2.2.1 = none) (hr : r < 1000000) (hc : nM G d' Y' (.ref r :: as) L O n Z P mc' ms' n' Z' P') (hd' : d' < d) (hn : as.length = np) (hst : st = as.reverse ++ .ref r :: rest) (hr8 : (rest.map fun v => v.category).sum ≤ 8) (hm : cells + mc' ≤ mc ∧ slots + ms' ≤ ms) (e : cells + mc' = c' ∧ slots + ms' = s')
    (kk : nW G X Y L O n' Z' P' c' s' nx lv rest) : nW G X Y L O n Z P cells slots pc lv st := by
  obtain ⟨rfl, rfl⟩ := e
  exact ax_I hX hY hs hl hret hr hc hd' hn hst hr8 hm (fun _ _ _ _ _ ⟨h1, h2, h3, h4, h5⟩ => by rw [h1, h2, h3, h4, h5]; exact kk)
theorem nx_vret (hX : xAmb G X Y d mc ms) (hE : xRet G X Y mc ms (nPo L O n Z P)) (hY : xpOK Y = true) (hs : xis Y pc xq_ret = some nx) (ht : Y.2.2.2.1 = none) (hc : cells ≤ mc ∧ slots ≤ ms) : nW G X Y L O n Z P cells slots pc lv [] :=
  ax_vret hX hE hY hs ht hc ⟨rfl, rfl, rfl, rfl, rfl⟩
theorem nM.of (hy : plainName Y.1.cls = true) (hw : xwid as ≤ Y.2.2.1) {lv : List Value} (hlv : xargs as Y.2.2.1 = lv)
    (body : ∀ X : xC, xAmb G X Y d mc ms → xRet G X Y mc ms (nPo L O n' Z' P') → nW G X Y L O n Z P 0 0 0 lv []) : nM G d Y as L O n Z P mc ms n' Z' P' := by
  subst hlv
  exact cM.of hy hw body
/-- four rows of forty ints -/
theorem nx_multi (hX : xAmb G X Y d mc ms) (hY : xpOK Y = true) (hC : Y.1.cls = "HandOverHorse") (hs : xlook Y.2.2.2.2.1 pc = some (.multianewarray 33 2, nx, a, cs)) (hk : kK (C0 L) n = (17, 4) ∧ ∀ j, j < 4 → kK (C0 L) (n + 1 + j) = (13, 40)) (hn : n + 5 ≤ 107) (hm : cells + 5 ≤ mc ∧ slots + 164 ≤ ms) (e : n + 5 = n' ∧ cells + 5 = c' ∧ slots + 164 = s')
    (kk : nW G X Y L O n' (mZ n Z) (mP n P) c' s' nx lv (.ref n :: st)) : nW G X Y L O n Z P cells slots pc lv (.int 40 :: .int 4 :: st) := by
  obtain ⟨rfl, rfl, rfl⟩ := e
  obtain ⟨hd, -, hlen, -⟩ := xdec hY hs
  obtain rfl : nx = pc + 4 := by simpa [xlen] using hlen
  rw [Nat.add_sub_cancel_left] at hd
  intro H locs ls hR hlo hlv
  have hts := hX.2.2.2.2.1
  have hK := hX.2.2.2.2.2.1.1
  have hsz := hR.1
  have hown := hX.2.2.2.1
  rw [hC] at hown
  refine W_multi (g := F0 _ pc ls (.int 40 :: .int 4 :: st.map (xv G))) hX.1 hX.2.1 hown (hts _ (xw_at 322 (by decide +kernel))) hX.2.2.2.2.2.1.2.2.2.2.1 (hts _ (xw_at 193 (by decide +kernel))) rfl hd rfl (Nat.le_trans hm.1 hX.2.2.2.2.2.2.2.2.1) (Nat.le_trans hm.2 hX.2.2.2.2.2.2.2.2.2.1) fun H1 cA k e1 e2 hz h0 hi ho => ?_
  have hcA : cA = G.2.1 17 := Option.some.inj (e1.symm.trans (hK.2 4 _ rfl).2)
  have hck : k = G.2.1 13 := Option.some.inj (e2.symm.trans (hK.2 0 _ rfl).2)
  have hR' : xR G (n + 5) (kK (C0 L)) (ov (mZ n Z) O) (mP n P) H1 := by
    refine hR.pushm (m := 5) hz ho (fun j hj => ?_) (fun q hq => ⟨?_, ?_⟩) (by omega)
    · by_cases hj0 : j = 0
      · subst hj0
        rw [Nat.add_zero, xE_ref hk.1 (by omega)]
        show H1[G.2.2.1 + n]? = some (arrV (G.2.1 17) 4 (fun j => va_rf (((if n = n then (fun j => if j < 4 then some (n + 1 + j) else none) else if n ≤ n ∧ n < n + 5 then o0 else P n) j).map (xmu G))))
        rw [← hsz, h0, hcA]
        unfold mgO
        congr 2
        funext j
        rw [if_pos rfl]
        by_cases h4 : j < 4
        · rw [if_pos h4, if_pos h4]
          have ex : xmu G (n + 1 + j) = H.size + 1 + j := by
            rw [xmu_new (by omega)]
            omega
          exact congrArg Value.ref ex.symm
        · rw [if_neg h4, if_neg h4]; rfl
      · have hkj := hk.2 (j - 1) (by omega)
        rw [show n + 1 + (j - 1) = n + j by omega] at hkj
        rw [xE_int hkj (by omega) (by omega)]
        have hov : ov (mZ n Z) O (n + j) = z0 := by
          show (if n + j < 1000000 then (if n ≤ n + j ∧ n + j < n + 5 then z0 else Z (n + j)) else O (n + j)) = z0
          rw [if_pos (by omega), if_pos (by omega)]
        rw [hov]
        show H1[G.2.2.1 + (n + j)]? = some (arrV (G.2.1 13) 40 (fun _ => .int 0))
        have h2 := hi (j - 1) (by omega)
        rw [show H.size + 1 + (j - 1) = G.2.2.1 + (n + j) by omega, hck] at h2
        exact h2
    · show (if q < 1000000 then (if n ≤ q ∧ q < n + 5 then z0 else Z q) else O q) = (if q < 1000000 then Z q else O q)
      by_cases hq6 : q < 1000000
      · rw [if_pos hq6, if_pos hq6, if_neg (by omega)]
      · rw [if_neg hq6, if_neg hq6]
    · show (if q = n then _ else if n ≤ q ∧ q < n + 5 then o0 else P q) = P q
      rw [if_neg (by omega), if_neg (by omega)]
  have k2 := kk H1 (locs ++ (List.range 4).map fun j => ⟨H.size, j⟩) ls hR' (fun q hq => by
    rcases List.mem_append.mp hq with h | h
    · exact hlo q h
    · obtain ⟨z, -, hz⟩ := List.mem_map.mp h
      rw [← hz]
      show G.2.2.1 ≤ H.size
      omega) hlv
  have e3 : xv G (.ref n) = .ref H.size := by rw [hsz]; exact congrArg Value.ref (xmu_new (by omega))
  rw [List.map_cons, e3] at k2
  exact k2
end NX
end
section
/-! the constructors (printed by wip/whole/gen_new.py) -/
theorem xw_aI : Cond.arrayClass (newarray.typeOf .int) ∈ xw := xw_at 193 (by decide +kernel)
theorem xw_aZ : Cond.arrayClass (newarray.typeOf .boolean) ∈ xw := xw_at 286 (by decide +kernel)
theorem mg_k {L : Nat} : ∀ j, j < 4 → kK (C0 L) (79 + 1 + j) = (13, 40) := by
  intro j hj
  rcases (show j = 0 ∨ j = 1 ∨ j = 2 ∨ j = 3 by omega) with rfl | rfl | rfl | rfl <;> rfl
theorem n_Stroke_init {G : xG} {d L n r : Nat} {O : HI} {Z : HI} {P : Nat → Nat → Option Nat} (hd : 1 ≤ d) (hr : r < n) (hr6 : r < 1000000) (hk : kK (C0 L) r = (0, 0)) : nM G d m_Stroke_init [.ref r] L O n Z P 0 0 n (xu Z r 5 9999) P := by
  refine nM.of (by decide +kernel) (Nat.le_of_ble_eq_true rfl) (lv := [.ref r]) rfl (fun X hX hE => ?_)
  refine nx_go 1 (pc' := 1) (lv' := [.ref r]) (st' := [.ref r]) hX ok_Stroke_init rfl ?_
  refine nx_obj hX ok_Stroke_init (nx := 4) rfl l_Stroke_3 (by omega) (Nat.le_of_ble_eq_true rfl) ?_
  refine nx_go 2 (pc' := 8) (lv' := [.ref r]) (st' := [.int (9999 : Int32), .ref r]) hX ok_Stroke_init rfl ?_
  refine nx_puti (c := 0) (w := 0) (k := 5) hX ok_Stroke_init rfl hr hr6 hk (nx := 11) rfl rfl rfl ?_
  exact nx_vret hX hE ok_Stroke_init (nx := 12) rfl rfl ⟨Nat.le_refl _, Nat.le_refl _⟩
def z_Text_init_16 (Z : HI) : HI := (xrow (xrow (xrow (xrow Z 17 z0) 18 z0) 19 z0) 20 z0)
def p_Text_init_16 (P : Nat → Nat → Option Nat) : Nat → Nat → Option Nat := (xup (xup (xprow (xup (xprow (xup (xprow (xup (xprow P 17 o0) 16 0 (some 17)) 18 o0) 16 1 (some 18)) 19 o0) 16 3 (some 19)) 20 o0) 16 4 (some 20)) 16 7 (some 1000002))
set_option maxRecDepth 20000 in
set_option maxHeartbeats 4000000 in
theorem n_Text_init_16 {G : xG} {d L : Nat} {O : HI} {Z : HI} {P : Nat → Nat → Option Nat} (hd : 1 ≤ d) : nM G d m_Text_init [.ref 16] L O 17 Z P 4 150 21 (z_Text_init_16 Z) (p_Text_init_16 P) := by
  refine nM.of (by decide +kernel) (Nat.le_of_ble_eq_true rfl) (lv := [.ref 16]) rfl (fun X hX hE => ?_)
  refine nx_go 1 (pc' := 1) (lv' := [.ref 16]) (st' := [.ref 16]) hX ok_Text_init rfl ?_
  refine nx_obj hX ok_Text_init (nx := 4) rfl l_Text_3 (by omega) (Nat.le_of_ble_eq_true rfl) ?_
  refine nx_go 2 (pc' := 7) (lv' := [.ref 16]) (st' := [.int (50 : Int32), .ref 16]) hX ok_Text_init rfl ?_
  refine nx_newa (c := 13) (w := 50) (n' := 18) (c' := 1) (s' := 50) hX ok_Text_init (nx := 9) rfl (Or.inl ⟨rfl, rfl⟩) xw_aI (by decide) rfl (Nat.le_of_ble_eq_true rfl) ⟨Nat.le_of_ble_eq_true rfl, Nat.le_of_ble_eq_true rfl⟩ ⟨rfl, rfl, rfl⟩ ?_
  refine nx_putp (c := 7) (w := 0) (k := 0) hX ok_Text_init rfl (Nat.le_of_ble_eq_true rfl) rfl (nx := 12) rfl (Or.inr ⟨rfl, rfl, rfl⟩) rfl ?_
  refine nx_go 2 (pc' := 15) (lv' := [.ref 16]) (st' := [.int (50 : Int32), .ref 16]) hX ok_Text_init rfl ?_
  refine nx_newa (c := 13) (w := 50) (n' := 19) (c' := 2) (s' := 100) hX ok_Text_init (nx := 17) rfl (Or.inl ⟨rfl, rfl⟩) xw_aI (by decide) rfl (Nat.le_of_ble_eq_true rfl) ⟨Nat.le_of_ble_eq_true rfl, Nat.le_of_ble_eq_true rfl⟩ ⟨rfl, rfl, rfl⟩ ?_
  refine nx_putp (c := 7) (w := 0) (k := 1) hX ok_Text_init rfl (Nat.le_of_ble_eq_true rfl) rfl (nx := 20) rfl (Or.inr ⟨rfl, rfl, rfl⟩) rfl ?_
  refine nx_go 2 (pc' := 23) (lv' := [.ref 16]) (st' := [.int (50 : Int32), .ref 16]) hX ok_Text_init rfl ?_
  refine nx_newa (c := 13) (w := 50) (n' := 20) (c' := 3) (s' := 150) hX ok_Text_init (nx := 25) rfl (Or.inl ⟨rfl, rfl⟩) xw_aI (by decide) rfl (Nat.le_of_ble_eq_true rfl) ⟨Nat.le_of_ble_eq_true rfl, Nat.le_of_ble_eq_true rfl⟩ ⟨rfl, rfl, rfl⟩ ?_
  refine nx_putp (c := 7) (w := 0) (k := 3) hX ok_Text_init rfl (Nat.le_of_ble_eq_true rfl) rfl (nx := 28) rfl (Or.inr ⟨rfl, rfl, rfl⟩) rfl ?_
  refine nx_go 2 (pc' := 30) (lv' := [.ref 16]) (st' := [.int (0 : Int32), .ref 16]) hX ok_Text_init rfl ?_
  refine nx_newa (c := 13) (w := 0) (n' := 21) (c' := 4) (s' := 150) hX ok_Text_init (nx := 32) rfl (Or.inl ⟨rfl, rfl⟩) xw_aI (by decide) rfl (Nat.le_of_ble_eq_true rfl) ⟨Nat.le_of_ble_eq_true rfl, Nat.le_of_ble_eq_true rfl⟩ ⟨rfl, rfl, rfl⟩ ?_
  refine nx_putp (c := 7) (w := 0) (k := 4) hX ok_Text_init rfl (Nat.le_of_ble_eq_true rfl) rfl (nx := 35) rfl (Or.inl rfl) rfl ?_
  refine nx_go 1 (pc' := 36) (lv' := [.ref 16]) (st' := [.ref 16]) hX ok_Text_init rfl ?_
  refine nx_str hX ok_Text_init rfl (nx := 38) rfl ?_
  refine nx_putp (c := 7) (w := 0) (k := 7) hX ok_Text_init rfl (Nat.le_of_ble_eq_true rfl) rfl (nx := 41) rfl (Or.inl rfl) rfl ?_
  exact nx_vret hX hE ok_Text_init (nx := 42) rfl rfl ⟨Nat.le_of_ble_eq_true rfl, Nat.le_of_ble_eq_true rfl⟩
def z_Text_init_21 (Z : HI) : HI := (xrow (xrow (xrow (xrow Z 22 z0) 23 z0) 24 z0) 25 z0)
def p_Text_init_21 (P : Nat → Nat → Option Nat) : Nat → Nat → Option Nat := (xup (xup (xprow (xup (xprow (xup (xprow (xup (xprow P 22 o0) 21 0 (some 22)) 23 o0) 21 1 (some 23)) 24 o0) 21 3 (some 24)) 25 o0) 21 4 (some 25)) 21 7 (some 1000002))
set_option maxRecDepth 20000 in
set_option maxHeartbeats 4000000 in
theorem n_Text_init_21 {G : xG} {d L : Nat} {O : HI} {Z : HI} {P : Nat → Nat → Option Nat} (hd : 1 ≤ d) : nM G d m_Text_init [.ref 21] L O 22 Z P 4 150 26 (z_Text_init_21 Z) (p_Text_init_21 P) := by
  refine nM.of (by decide +kernel) (Nat.le_of_ble_eq_true rfl) (lv := [.ref 21]) rfl (fun X hX hE => ?_)
  refine nx_go 1 (pc' := 1) (lv' := [.ref 21]) (st' := [.ref 21]) hX ok_Text_init rfl ?_
  refine nx_obj hX ok_Text_init (nx := 4) rfl l_Text_3 (by omega) (Nat.le_of_ble_eq_true rfl) ?_
  refine nx_go 2 (pc' := 7) (lv' := [.ref 21]) (st' := [.int (50 : Int32), .ref 21]) hX ok_Text_init rfl ?_
  refine nx_newa (c := 13) (w := 50) (n' := 23) (c' := 1) (s' := 50) hX ok_Text_init (nx := 9) rfl (Or.inl ⟨rfl, rfl⟩) xw_aI (by decide) rfl (Nat.le_of_ble_eq_true rfl) ⟨Nat.le_of_ble_eq_true rfl, Nat.le_of_ble_eq_true rfl⟩ ⟨rfl, rfl, rfl⟩ ?_
  refine nx_putp (c := 7) (w := 0) (k := 0) hX ok_Text_init rfl (Nat.le_of_ble_eq_true rfl) rfl (nx := 12) rfl (Or.inr ⟨rfl, rfl, rfl⟩) rfl ?_
  refine nx_go 2 (pc' := 15) (lv' := [.ref 21]) (st' := [.int (50 : Int32), .ref 21]) hX ok_Text_init rfl ?_
  refine nx_newa (c := 13) (w := 50) (n' := 24) (c' := 2) (s' := 100) hX ok_Text_init (nx := 17) rfl (Or.inl ⟨rfl, rfl⟩) xw_aI (by decide) rfl (Nat.le_of_ble_eq_true rfl) ⟨Nat.le_of_ble_eq_true rfl, Nat.le_of_ble_eq_true rfl⟩ ⟨rfl, rfl, rfl⟩ ?_
  refine nx_putp (c := 7) (w := 0) (k := 1) hX ok_Text_init rfl (Nat.le_of_ble_eq_true rfl) rfl (nx := 20) rfl (Or.inr ⟨rfl, rfl, rfl⟩) rfl ?_
  refine nx_go 2 (pc' := 23) (lv' := [.ref 21]) (st' := [.int (50 : Int32), .ref 21]) hX ok_Text_init rfl ?_
  refine nx_newa (c := 13) (w := 50) (n' := 25) (c' := 3) (s' := 150) hX ok_Text_init (nx := 25) rfl (Or.inl ⟨rfl, rfl⟩) xw_aI (by decide) rfl (Nat.le_of_ble_eq_true rfl) ⟨Nat.le_of_ble_eq_true rfl, Nat.le_of_ble_eq_true rfl⟩ ⟨rfl, rfl, rfl⟩ ?_
  refine nx_putp (c := 7) (w := 0) (k := 3) hX ok_Text_init rfl (Nat.le_of_ble_eq_true rfl) rfl (nx := 28) rfl (Or.inr ⟨rfl, rfl, rfl⟩) rfl ?_
  refine nx_go 2 (pc' := 30) (lv' := [.ref 21]) (st' := [.int (0 : Int32), .ref 21]) hX ok_Text_init rfl ?_
  refine nx_newa (c := 13) (w := 0) (n' := 26) (c' := 4) (s' := 150) hX ok_Text_init (nx := 32) rfl (Or.inl ⟨rfl, rfl⟩) xw_aI (by decide) rfl (Nat.le_of_ble_eq_true rfl) ⟨Nat.le_of_ble_eq_true rfl, Nat.le_of_ble_eq_true rfl⟩ ⟨rfl, rfl, rfl⟩ ?_
  refine nx_putp (c := 7) (w := 0) (k := 4) hX ok_Text_init rfl (Nat.le_of_ble_eq_true rfl) rfl (nx := 35) rfl (Or.inl rfl) rfl ?_
  refine nx_go 1 (pc' := 36) (lv' := [.ref 21]) (st' := [.ref 21]) hX ok_Text_init rfl ?_
  refine nx_str hX ok_Text_init rfl (nx := 38) rfl ?_
  refine nx_putp (c := 7) (w := 0) (k := 7) hX ok_Text_init rfl (Nat.le_of_ble_eq_true rfl) rfl (nx := 41) rfl (Or.inl rfl) rfl ?_
  exact nx_vret hX hE ok_Text_init (nx := 42) rfl rfl ⟨Nat.le_of_ble_eq_true rfl, Nat.le_of_ble_eq_true rfl⟩
def z_Text_init_26 (Z : HI) : HI := (xrow (xrow (xrow (xrow Z 27 z0) 28 z0) 29 z0) 30 z0)
def p_Text_init_26 (P : Nat → Nat → Option Nat) : Nat → Nat → Option Nat := (xup (xup (xprow (xup (xprow (xup (xprow (xup (xprow P 27 o0) 26 0 (some 27)) 28 o0) 26 1 (some 28)) 29 o0) 26 3 (some 29)) 30 o0) 26 4 (some 30)) 26 7 (some 1000002))
set_option maxRecDepth 20000 in
set_option maxHeartbeats 4000000 in
theorem n_Text_init_26 {G : xG} {d L : Nat} {O : HI} {Z : HI} {P : Nat → Nat → Option Nat} (hd : 1 ≤ d) : nM G d m_Text_init [.ref 26] L O 27 Z P 4 150 31 (z_Text_init_26 Z) (p_Text_init_26 P) := by
  refine nM.of (by decide +kernel) (Nat.le_of_ble_eq_true rfl) (lv := [.ref 26]) rfl (fun X hX hE => ?_)
  refine nx_go 1 (pc' := 1) (lv' := [.ref 26]) (st' := [.ref 26]) hX ok_Text_init rfl ?_
  refine nx_obj hX ok_Text_init (nx := 4) rfl l_Text_3 (by omega) (Nat.le_of_ble_eq_true rfl) ?_
  refine nx_go 2 (pc' := 7) (lv' := [.ref 26]) (st' := [.int (50 : Int32), .ref 26]) hX ok_Text_init rfl ?_
  refine nx_newa (c := 13) (w := 50) (n' := 28) (c' := 1) (s' := 50) hX ok_Text_init (nx := 9) rfl (Or.inl ⟨rfl, rfl⟩) xw_aI (by decide) rfl (Nat.le_of_ble_eq_true rfl) ⟨Nat.le_of_ble_eq_true rfl, Nat.le_of_ble_eq_true rfl⟩ ⟨rfl, rfl, rfl⟩ ?_
  refine nx_putp (c := 7) (w := 0) (k := 0) hX ok_Text_init rfl (Nat.le_of_ble_eq_true rfl) rfl (nx := 12) rfl (Or.inr ⟨rfl, rfl, rfl⟩) rfl ?_
  refine nx_go 2 (pc' := 15) (lv' := [.ref 26]) (st' := [.int (50 : Int32), .ref 26]) hX ok_Text_init rfl ?_
  refine nx_newa (c := 13) (w := 50) (n' := 29) (c' := 2) (s' := 100) hX ok_Text_init (nx := 17) rfl (Or.inl ⟨rfl, rfl⟩) xw_aI (by decide) rfl (Nat.le_of_ble_eq_true rfl) ⟨Nat.le_of_ble_eq_true rfl, Nat.le_of_ble_eq_true rfl⟩ ⟨rfl, rfl, rfl⟩ ?_
  refine nx_putp (c := 7) (w := 0) (k := 1) hX ok_Text_init rfl (Nat.le_of_ble_eq_true rfl) rfl (nx := 20) rfl (Or.inr ⟨rfl, rfl, rfl⟩) rfl ?_
  refine nx_go 2 (pc' := 23) (lv' := [.ref 26]) (st' := [.int (50 : Int32), .ref 26]) hX ok_Text_init rfl ?_
  refine nx_newa (c := 13) (w := 50) (n' := 30) (c' := 3) (s' := 150) hX ok_Text_init (nx := 25) rfl (Or.inl ⟨rfl, rfl⟩) xw_aI (by decide) rfl (Nat.le_of_ble_eq_true rfl) ⟨Nat.le_of_ble_eq_true rfl, Nat.le_of_ble_eq_true rfl⟩ ⟨rfl, rfl, rfl⟩ ?_
  refine nx_putp (c := 7) (w := 0) (k := 3) hX ok_Text_init rfl (Nat.le_of_ble_eq_true rfl) rfl (nx := 28) rfl (Or.inr ⟨rfl, rfl, rfl⟩) rfl ?_
  refine nx_go 2 (pc' := 30) (lv' := [.ref 26]) (st' := [.int (0 : Int32), .ref 26]) hX ok_Text_init rfl ?_
  refine nx_newa (c := 13) (w := 0) (n' := 31) (c' := 4) (s' := 150) hX ok_Text_init (nx := 32) rfl (Or.inl ⟨rfl, rfl⟩) xw_aI (by decide) rfl (Nat.le_of_ble_eq_true rfl) ⟨Nat.le_of_ble_eq_true rfl, Nat.le_of_ble_eq_true rfl⟩ ⟨rfl, rfl, rfl⟩ ?_
  refine nx_putp (c := 7) (w := 0) (k := 4) hX ok_Text_init rfl (Nat.le_of_ble_eq_true rfl) rfl (nx := 35) rfl (Or.inl rfl) rfl ?_
  refine nx_go 1 (pc' := 36) (lv' := [.ref 26]) (st' := [.ref 26]) hX ok_Text_init rfl ?_
  refine nx_str hX ok_Text_init rfl (nx := 38) rfl ?_
  refine nx_putp (c := 7) (w := 0) (k := 7) hX ok_Text_init rfl (Nat.le_of_ble_eq_true rfl) rfl (nx := 41) rfl (Or.inl rfl) rfl ?_
  exact nx_vret hX hE ok_Text_init (nx := 42) rfl rfl ⟨Nat.le_of_ble_eq_true rfl, Nat.le_of_ble_eq_true rfl⟩
def z_Wall_init_1 (Z : HI) : HI := (xu (xrow (z_Text_init_26 (xrow (z_Text_init_21 (xrow (z_Text_init_16 (xrow (xrow (xrow (xrow (xrow (xrow (xu (xrow (xu (xrow (xu (xrow (xu (xrow (xu (xrow (xu (xrow (xu (xrow (xu (xrow (xrow Z 2 z0) 3 z0) 3 5 9999) 4 z0) 4 5 9999) 5 z0) 5 5 9999) 6 z0) 6 5 9999) 7 z0) 7 5 9999) 8 z0) 8 5 9999) 9 z0) 9 5 9999) 10 z0) 10 5 9999) 11 z0) 12 z0) 13 z0) 14 z0) 15 z0) 16 z0)) 21 z0)) 26 z0)) 31 z0) 1 12 1)
def p_Wall_init_1 (P : Nat → Nat → Option Nat) : Nat → Nat → Option Nat := (xup (xprow (xup (p_Text_init_26 (xprow (xup (p_Text_init_21 (xprow (xup (p_Text_init_16 (xprow (xup (xprow (xup (xprow (xup (xprow (xup (xprow (xup (xprow (xup (xprow (xup (xprow (xup (xprow (xup (xprow (xup (xprow (xup (xprow (xup (xprow (xup (xprow (xup (xprow P 2 o0) 1 0 (some 2)) 3 o0) 2 0 (some 3)) 4 o0) 2 1 (some 4)) 5 o0) 2 2 (some 5)) 6 o0) 2 3 (some 6)) 7 o0) 2 4 (some 7)) 8 o0) 2 5 (some 8)) 9 o0) 2 6 (some 9)) 10 o0) 2 7 (some 10)) 11 o0) 1 2 (some 11)) 12 o0) 1 3 (some 12)) 13 o0) 1 4 (some 13)) 14 o0) 1 6 (some 14)) 15 o0) 1 8 (some 15)) 16 o0)) 15 0 (some 16)) 21 o0)) 15 1 (some 21)) 26 o0)) 1 9 (some 26)) 31 o0) 1 10 (some 31))
set_option maxRecDepth 20000 in
set_option maxHeartbeats 4000000 in
theorem n_Wall_init_1 {G : xG} {d L : Nat} {O : HI} {Z : HI} {P : Nat → Nat → Option Nat} (hd : 2 ≤ d) : nM G d m_Wall_init [.ref 1] L O 2 Z P 30 646 32 (z_Wall_init_1 Z) (p_Wall_init_1 P) := by
  refine nM.of (by decide +kernel) (Nat.le_of_ble_eq_true rfl) (lv := [.ref 1, .null]) rfl (fun X hX hE => ?_)
  refine nx_go 1 (pc' := 1) (lv' := [.ref 1, .null]) (st' := [.ref 1]) hX ok_Wall_init rfl ?_
  refine nx_obj hX ok_Wall_init (nx := 4) rfl l_Wall_3 (by omega) (Nat.le_of_ble_eq_true rfl) ?_
  refine nx_go 2 (pc' := 7) (lv' := [.ref 1, .null]) (st' := [.int (8 : Int32), .ref 1]) hX ok_Wall_init rfl ?_
  refine nx_newq (c := 15) (w := 8) (n' := 3) (c' := 1) (s' := 8) hX ok_Wall_init (nx := 10) rfl (Or.inl ⟨rfl, rfl⟩) l_Wall_9.1 (by decide) rfl (Nat.le_of_ble_eq_true rfl) ⟨Nat.le_of_ble_eq_true rfl, Nat.le_of_ble_eq_true rfl⟩ ⟨rfl, rfl, rfl⟩ ?_
  refine nx_putp (c := 8) (w := 0) (k := 0) hX ok_Wall_init rfl (Nat.le_of_ble_eq_true rfl) rfl (nx := 13) rfl (Or.inr ⟨rfl, rfl, rfl⟩) rfl ?_
  refine nx_go 5 (pc' := if (8 : Int32) ≤ 0 then 40 else 21) (lv' := [.ref 1, .int (0 : Int32)]) (st' := []) hX ok_Wall_init rfl ?_
  refine nx_no (by decide) ?_
  refine nx_go 1 (pc' := 22) (lv' := [.ref 1, .int (0 : Int32)]) (st' := [.ref 1]) hX ok_Wall_init rfl ?_
  refine nx_getp (c := 8) (w := 0) (k := 0) (q := 2) hX ok_Wall_init rfl (Nat.le_of_ble_eq_true rfl) rfl (nx := 25) rfl rfl rfl ?_
  refine nx_go 1 (pc' := 26) (lv' := [.ref 1, .int (0 : Int32)]) (st' := [.int (0 : Int32), .ref 2]) hX ok_Wall_init rfl ?_
  refine nx_new (c := 0) (w := 0) (n' := 4) (c' := 2) (s' := 15) hX ok_Wall_init (nx := 29) rfl (by decide) l_Wall_9 rfl (Nat.le_of_ble_eq_true rfl) ⟨Nat.le_of_ble_eq_true rfl, Nat.le_of_ble_eq_true rfl⟩ ⟨rfl, rfl, rfl⟩ ?_
  refine nx_go 1 (pc' := 30) (lv' := [.ref 1, .int (0 : Int32)]) (st' := [.ref 3, .ref 3, .int (0 : Int32), .ref 2]) hX ok_Wall_init rfl ?_
  refine nx_I (as := []) (rest := [.ref 3, .int (0 : Int32), .ref 2]) (c' := 2) (s' := 15) hX ok_Wall_init (nx := 33) rfl l_Wall_17 rfl (Nat.le_of_ble_eq_true rfl) (n_Stroke_init (d := 1) (r := 3) (by omega) (Nat.le_of_ble_eq_true rfl) (Nat.le_of_ble_eq_true rfl) rfl) (by omega) rfl rfl (Nat.le_of_ble_eq_true rfl) ⟨Nat.le_of_ble_eq_true rfl, Nat.le_of_ble_eq_true rfl⟩ ⟨rfl, rfl⟩ ?_
  refine nx_aast (c := 15) (w := 8) (cq := 0) (wq := 0) (j := 0) hX ok_Wall_init (Nat.le_of_ble_eq_true rfl) rfl (Nat.le_of_ble_eq_true rfl) rfl (by decide) (Or.inl ⟨rfl, rfl⟩) rfl (nx := 34) rfl (by decide) (by decide) ?_
  refine nx_go 1 (pc' := 37) (lv' := [.ref 1, .int ((0 : Int32) + 1)]) (st' := []) hX ok_Wall_init rfl ?_
  rw [show ((0 : Int32) + 1) = 1 from by decide]
  refine nx_go 4 (pc' := if (8 : Int32) ≤ 1 then 40 else 21) (lv' := [.ref 1, .int (1 : Int32)]) (st' := []) hX ok_Wall_init rfl ?_
  refine nx_no (by decide) ?_
  refine nx_go 1 (pc' := 22) (lv' := [.ref 1, .int (1 : Int32)]) (st' := [.ref 1]) hX ok_Wall_init rfl ?_
  refine nx_getp (c := 8) (w := 0) (k := 0) (q := 2) hX ok_Wall_init rfl (Nat.le_of_ble_eq_true rfl) rfl (nx := 25) rfl rfl rfl ?_
  refine nx_go 1 (pc' := 26) (lv' := [.ref 1, .int (1 : Int32)]) (st' := [.int (1 : Int32), .ref 2]) hX ok_Wall_init rfl ?_
  refine nx_new (c := 0) (w := 0) (n' := 5) (c' := 3) (s' := 22) hX ok_Wall_init (nx := 29) rfl (by decide) l_Wall_9 rfl (Nat.le_of_ble_eq_true rfl) ⟨Nat.le_of_ble_eq_true rfl, Nat.le_of_ble_eq_true rfl⟩ ⟨rfl, rfl, rfl⟩ ?_
  refine nx_go 1 (pc' := 30) (lv' := [.ref 1, .int (1 : Int32)]) (st' := [.ref 4, .ref 4, .int (1 : Int32), .ref 2]) hX ok_Wall_init rfl ?_
  refine nx_I (as := []) (rest := [.ref 4, .int (1 : Int32), .ref 2]) (c' := 3) (s' := 22) hX ok_Wall_init (nx := 33) rfl l_Wall_17 rfl (Nat.le_of_ble_eq_true rfl) (n_Stroke_init (d := 1) (r := 4) (by omega) (Nat.le_of_ble_eq_true rfl) (Nat.le_of_ble_eq_true rfl) rfl) (by omega) rfl rfl (Nat.le_of_ble_eq_true rfl) ⟨Nat.le_of_ble_eq_true rfl, Nat.le_of_ble_eq_true rfl⟩ ⟨rfl, rfl⟩ ?_
  refine nx_aast (c := 15) (w := 8) (cq := 0) (wq := 0) (j := 1) hX ok_Wall_init (Nat.le_of_ble_eq_true rfl) rfl (Nat.le_of_ble_eq_true rfl) rfl (by decide) (Or.inl ⟨rfl, rfl⟩) rfl (nx := 34) rfl (by decide) (by decide) ?_
  refine nx_go 1 (pc' := 37) (lv' := [.ref 1, .int ((1 : Int32) + 1)]) (st' := []) hX ok_Wall_init rfl ?_
  rw [show ((1 : Int32) + 1) = 2 from by decide]
  refine nx_go 4 (pc' := if (8 : Int32) ≤ 2 then 40 else 21) (lv' := [.ref 1, .int (2 : Int32)]) (st' := []) hX ok_Wall_init rfl ?_
  refine nx_no (by decide) ?_
  refine nx_go 1 (pc' := 22) (lv' := [.ref 1, .int (2 : Int32)]) (st' := [.ref 1]) hX ok_Wall_init rfl ?_
  refine nx_getp (c := 8) (w := 0) (k := 0) (q := 2) hX ok_Wall_init rfl (Nat.le_of_ble_eq_true rfl) rfl (nx := 25) rfl rfl rfl ?_
  refine nx_go 1 (pc' := 26) (lv' := [.ref 1, .int (2 : Int32)]) (st' := [.int (2 : Int32), .ref 2]) hX ok_Wall_init rfl ?_
  refine nx_new (c := 0) (w := 0) (n' := 6) (c' := 4) (s' := 29) hX ok_Wall_init (nx := 29) rfl (by decide) l_Wall_9 rfl (Nat.le_of_ble_eq_true rfl) ⟨Nat.le_of_ble_eq_true rfl, Nat.le_of_ble_eq_true rfl⟩ ⟨rfl, rfl, rfl⟩ ?_
  refine nx_go 1 (pc' := 30) (lv' := [.ref 1, .int (2 : Int32)]) (st' := [.ref 5, .ref 5, .int (2 : Int32), .ref 2]) hX ok_Wall_init rfl ?_
  refine nx_I (as := []) (rest := [.ref 5, .int (2 : Int32), .ref 2]) (c' := 4) (s' := 29) hX ok_Wall_init (nx := 33) rfl l_Wall_17 rfl (Nat.le_of_ble_eq_true rfl) (n_Stroke_init (d := 1) (r := 5) (by omega) (Nat.le_of_ble_eq_true rfl) (Nat.le_of_ble_eq_true rfl) rfl) (by omega) rfl rfl (Nat.le_of_ble_eq_true rfl) ⟨Nat.le_of_ble_eq_true rfl, Nat.le_of_ble_eq_true rfl⟩ ⟨rfl, rfl⟩ ?_
  refine nx_aast (c := 15) (w := 8) (cq := 0) (wq := 0) (j := 2) hX ok_Wall_init (Nat.le_of_ble_eq_true rfl) rfl (Nat.le_of_ble_eq_true rfl) rfl (by decide) (Or.inl ⟨rfl, rfl⟩) rfl (nx := 34) rfl (by decide) (by decide) ?_
  refine nx_go 1 (pc' := 37) (lv' := [.ref 1, .int ((2 : Int32) + 1)]) (st' := []) hX ok_Wall_init rfl ?_
  rw [show ((2 : Int32) + 1) = 3 from by decide]
  refine nx_go 4 (pc' := if (8 : Int32) ≤ 3 then 40 else 21) (lv' := [.ref 1, .int (3 : Int32)]) (st' := []) hX ok_Wall_init rfl ?_
  refine nx_no (by decide) ?_
  refine nx_go 1 (pc' := 22) (lv' := [.ref 1, .int (3 : Int32)]) (st' := [.ref 1]) hX ok_Wall_init rfl ?_
  refine nx_getp (c := 8) (w := 0) (k := 0) (q := 2) hX ok_Wall_init rfl (Nat.le_of_ble_eq_true rfl) rfl (nx := 25) rfl rfl rfl ?_
  refine nx_go 1 (pc' := 26) (lv' := [.ref 1, .int (3 : Int32)]) (st' := [.int (3 : Int32), .ref 2]) hX ok_Wall_init rfl ?_
  refine nx_new (c := 0) (w := 0) (n' := 7) (c' := 5) (s' := 36) hX ok_Wall_init (nx := 29) rfl (by decide) l_Wall_9 rfl (Nat.le_of_ble_eq_true rfl) ⟨Nat.le_of_ble_eq_true rfl, Nat.le_of_ble_eq_true rfl⟩ ⟨rfl, rfl, rfl⟩ ?_
  refine nx_go 1 (pc' := 30) (lv' := [.ref 1, .int (3 : Int32)]) (st' := [.ref 6, .ref 6, .int (3 : Int32), .ref 2]) hX ok_Wall_init rfl ?_
  refine nx_I (as := []) (rest := [.ref 6, .int (3 : Int32), .ref 2]) (c' := 5) (s' := 36) hX ok_Wall_init (nx := 33) rfl l_Wall_17 rfl (Nat.le_of_ble_eq_true rfl) (n_Stroke_init (d := 1) (r := 6) (by omega) (Nat.le_of_ble_eq_true rfl) (Nat.le_of_ble_eq_true rfl) rfl) (by omega) rfl rfl (Nat.le_of_ble_eq_true rfl) ⟨Nat.le_of_ble_eq_true rfl, Nat.le_of_ble_eq_true rfl⟩ ⟨rfl, rfl⟩ ?_
  refine nx_aast (c := 15) (w := 8) (cq := 0) (wq := 0) (j := 3) hX ok_Wall_init (Nat.le_of_ble_eq_true rfl) rfl (Nat.le_of_ble_eq_true rfl) rfl (by decide) (Or.inl ⟨rfl, rfl⟩) rfl (nx := 34) rfl (by decide) (by decide) ?_
  refine nx_go 1 (pc' := 37) (lv' := [.ref 1, .int ((3 : Int32) + 1)]) (st' := []) hX ok_Wall_init rfl ?_
  rw [show ((3 : Int32) + 1) = 4 from by decide]
  refine nx_go 4 (pc' := if (8 : Int32) ≤ 4 then 40 else 21) (lv' := [.ref 1, .int (4 : Int32)]) (st' := []) hX ok_Wall_init rfl ?_
  refine nx_no (by decide) ?_
  refine nx_go 1 (pc' := 22) (lv' := [.ref 1, .int (4 : Int32)]) (st' := [.ref 1]) hX ok_Wall_init rfl ?_
  refine nx_getp (c := 8) (w := 0) (k := 0) (q := 2) hX ok_Wall_init rfl (Nat.le_of_ble_eq_true rfl) rfl (nx := 25) rfl rfl rfl ?_
  refine nx_go 1 (pc' := 26) (lv' := [.ref 1, .int (4 : Int32)]) (st' := [.int (4 : Int32), .ref 2]) hX ok_Wall_init rfl ?_
  refine nx_new (c := 0) (w := 0) (n' := 8) (c' := 6) (s' := 43) hX ok_Wall_init (nx := 29) rfl (by decide) l_Wall_9 rfl (Nat.le_of_ble_eq_true rfl) ⟨Nat.le_of_ble_eq_true rfl, Nat.le_of_ble_eq_true rfl⟩ ⟨rfl, rfl, rfl⟩ ?_
  refine nx_go 1 (pc' := 30) (lv' := [.ref 1, .int (4 : Int32)]) (st' := [.ref 7, .ref 7, .int (4 : Int32), .ref 2]) hX ok_Wall_init rfl ?_
  refine nx_I (as := []) (rest := [.ref 7, .int (4 : Int32), .ref 2]) (c' := 6) (s' := 43) hX ok_Wall_init (nx := 33) rfl l_Wall_17 rfl (Nat.le_of_ble_eq_true rfl) (n_Stroke_init (d := 1) (r := 7) (by omega) (Nat.le_of_ble_eq_true rfl) (Nat.le_of_ble_eq_true rfl) rfl) (by omega) rfl rfl (Nat.le_of_ble_eq_true rfl) ⟨Nat.le_of_ble_eq_true rfl, Nat.le_of_ble_eq_true rfl⟩ ⟨rfl, rfl⟩ ?_
  refine nx_aast (c := 15) (w := 8) (cq := 0) (wq := 0) (j := 4) hX ok_Wall_init (Nat.le_of_ble_eq_true rfl) rfl (Nat.le_of_ble_eq_true rfl) rfl (by decide) (Or.inl ⟨rfl, rfl⟩) rfl (nx := 34) rfl (by decide) (by decide) ?_
  refine nx_go 1 (pc' := 37) (lv' := [.ref 1, .int ((4 : Int32) + 1)]) (st' := []) hX ok_Wall_init rfl ?_
  rw [show ((4 : Int32) + 1) = 5 from by decide]
  refine nx_go 4 (pc' := if (8 : Int32) ≤ 5 then 40 else 21) (lv' := [.ref 1, .int (5 : Int32)]) (st' := []) hX ok_Wall_init rfl ?_
  refine nx_no (by decide) ?_
  refine nx_go 1 (pc' := 22) (lv' := [.ref 1, .int (5 : Int32)]) (st' := [.ref 1]) hX ok_Wall_init rfl ?_
  refine nx_getp (c := 8) (w := 0) (k := 0) (q := 2) hX ok_Wall_init rfl (Nat.le_of_ble_eq_true rfl) rfl (nx := 25) rfl rfl rfl ?_
  refine nx_go 1 (pc' := 26) (lv' := [.ref 1, .int (5 : Int32)]) (st' := [.int (5 : Int32), .ref 2]) hX ok_Wall_init rfl ?_
  refine nx_new (c := 0) (w := 0) (n' := 9) (c' := 7) (s' := 50) hX ok_Wall_init (nx := 29) rfl (by decide) l_Wall_9 rfl (Nat.le_of_ble_eq_true rfl) ⟨Nat.le_of_ble_eq_true rfl, Nat.le_of_ble_eq_true rfl⟩ ⟨rfl, rfl, rfl⟩ ?_
  refine nx_go 1 (pc' := 30) (lv' := [.ref 1, .int (5 : Int32)]) (st' := [.ref 8, .ref 8, .int (5 : Int32), .ref 2]) hX ok_Wall_init rfl ?_
  refine nx_I (as := []) (rest := [.ref 8, .int (5 : Int32), .ref 2]) (c' := 7) (s' := 50) hX ok_Wall_init (nx := 33) rfl l_Wall_17 rfl (Nat.le_of_ble_eq_true rfl) (n_Stroke_init (d := 1) (r := 8) (by omega) (Nat.le_of_ble_eq_true rfl) (Nat.le_of_ble_eq_true rfl) rfl) (by omega) rfl rfl (Nat.le_of_ble_eq_true rfl) ⟨Nat.le_of_ble_eq_true rfl, Nat.le_of_ble_eq_true rfl⟩ ⟨rfl, rfl⟩ ?_
  refine nx_aast (c := 15) (w := 8) (cq := 0) (wq := 0) (j := 5) hX ok_Wall_init (Nat.le_of_ble_eq_true rfl) rfl (Nat.le_of_ble_eq_true rfl) rfl (by decide) (Or.inl ⟨rfl, rfl⟩) rfl (nx := 34) rfl (by decide) (by decide) ?_
  refine nx_go 1 (pc' := 37) (lv' := [.ref 1, .int ((5 : Int32) + 1)]) (st' := []) hX ok_Wall_init rfl ?_
  rw [show ((5 : Int32) + 1) = 6 from by decide]
  refine nx_go 4 (pc' := if (8 : Int32) ≤ 6 then 40 else 21) (lv' := [.ref 1, .int (6 : Int32)]) (st' := []) hX ok_Wall_init rfl ?_
  refine nx_no (by decide) ?_
  refine nx_go 1 (pc' := 22) (lv' := [.ref 1, .int (6 : Int32)]) (st' := [.ref 1]) hX ok_Wall_init rfl ?_
  refine nx_getp (c := 8) (w := 0) (k := 0) (q := 2) hX ok_Wall_init rfl (Nat.le_of_ble_eq_true rfl) rfl (nx := 25) rfl rfl rfl ?_
  refine nx_go 1 (pc' := 26) (lv' := [.ref 1, .int (6 : Int32)]) (st' := [.int (6 : Int32), .ref 2]) hX ok_Wall_init rfl ?_
  refine nx_new (c := 0) (w := 0) (n' := 10) (c' := 8) (s' := 57) hX ok_Wall_init (nx := 29) rfl (by decide) l_Wall_9 rfl (Nat.le_of_ble_eq_true rfl) ⟨Nat.le_of_ble_eq_true rfl, Nat.le_of_ble_eq_true rfl⟩ ⟨rfl, rfl, rfl⟩ ?_
  refine nx_go 1 (pc' := 30) (lv' := [.ref 1, .int (6 : Int32)]) (st' := [.ref 9, .ref 9, .int (6 : Int32), .ref 2]) hX ok_Wall_init rfl ?_
  refine nx_I (as := []) (rest := [.ref 9, .int (6 : Int32), .ref 2]) (c' := 8) (s' := 57) hX ok_Wall_init (nx := 33) rfl l_Wall_17 rfl (Nat.le_of_ble_eq_true rfl) (n_Stroke_init (d := 1) (r := 9) (by omega) (Nat.le_of_ble_eq_true rfl) (Nat.le_of_ble_eq_true rfl) rfl) (by omega) rfl rfl (Nat.le_of_ble_eq_true rfl) ⟨Nat.le_of_ble_eq_true rfl, Nat.le_of_ble_eq_true rfl⟩ ⟨rfl, rfl⟩ ?_
  refine nx_aast (c := 15) (w := 8) (cq := 0) (wq := 0) (j := 6) hX ok_Wall_init (Nat.le_of_ble_eq_true rfl) rfl (Nat.le_of_ble_eq_true rfl) rfl (by decide) (Or.inl ⟨rfl, rfl⟩) rfl (nx := 34) rfl (by decide) (by decide) ?_
  refine nx_go 1 (pc' := 37) (lv' := [.ref 1, .int ((6 : Int32) + 1)]) (st' := []) hX ok_Wall_init rfl ?_
  rw [show ((6 : Int32) + 1) = 7 from by decide]
  refine nx_go 4 (pc' := if (8 : Int32) ≤ 7 then 40 else 21) (lv' := [.ref 1, .int (7 : Int32)]) (st' := []) hX ok_Wall_init rfl ?_
  refine nx_no (by decide) ?_
  refine nx_go 1 (pc' := 22) (lv' := [.ref 1, .int (7 : Int32)]) (st' := [.ref 1]) hX ok_Wall_init rfl ?_
  refine nx_getp (c := 8) (w := 0) (k := 0) (q := 2) hX ok_Wall_init rfl (Nat.le_of_ble_eq_true rfl) rfl (nx := 25) rfl rfl rfl ?_
  refine nx_go 1 (pc' := 26) (lv' := [.ref 1, .int (7 : Int32)]) (st' := [.int (7 : Int32), .ref 2]) hX ok_Wall_init rfl ?_
  refine nx_new (c := 0) (w := 0) (n' := 11) (c' := 9) (s' := 64) hX ok_Wall_init (nx := 29) rfl (by decide) l_Wall_9 rfl (Nat.le_of_ble_eq_true rfl) ⟨Nat.le_of_ble_eq_true rfl, Nat.le_of_ble_eq_true rfl⟩ ⟨rfl, rfl, rfl⟩ ?_
  refine nx_go 1 (pc' := 30) (lv' := [.ref 1, .int (7 : Int32)]) (st' := [.ref 10, .ref 10, .int (7 : Int32), .ref 2]) hX ok_Wall_init rfl ?_
  refine nx_I (as := []) (rest := [.ref 10, .int (7 : Int32), .ref 2]) (c' := 9) (s' := 64) hX ok_Wall_init (nx := 33) rfl l_Wall_17 rfl (Nat.le_of_ble_eq_true rfl) (n_Stroke_init (d := 1) (r := 10) (by omega) (Nat.le_of_ble_eq_true rfl) (Nat.le_of_ble_eq_true rfl) rfl) (by omega) rfl rfl (Nat.le_of_ble_eq_true rfl) ⟨Nat.le_of_ble_eq_true rfl, Nat.le_of_ble_eq_true rfl⟩ ⟨rfl, rfl⟩ ?_
  refine nx_aast (c := 15) (w := 8) (cq := 0) (wq := 0) (j := 7) hX ok_Wall_init (Nat.le_of_ble_eq_true rfl) rfl (Nat.le_of_ble_eq_true rfl) rfl (by decide) (Or.inl ⟨rfl, rfl⟩) rfl (nx := 34) rfl (by decide) (by decide) ?_
  refine nx_go 1 (pc' := 37) (lv' := [.ref 1, .int ((7 : Int32) + 1)]) (st' := []) hX ok_Wall_init rfl ?_
  rw [show ((7 : Int32) + 1) = 8 from by decide]
  refine nx_go 4 (pc' := if (8 : Int32) ≤ 8 then 40 else 21) (lv' := [.ref 1, .int (8 : Int32)]) (st' := []) hX ok_Wall_init rfl ?_
  refine nx_yes (by decide) ?_
  refine nx_go 2 (pc' := 43) (lv' := [.ref 1, .int (8 : Int32)]) (st' := [.int (12 : Int32), .ref 1]) hX ok_Wall_init rfl ?_
  refine nx_newa (c := 13) (w := 12) (n' := 12) (c' := 10) (s' := 76) hX ok_Wall_init (nx := 45) rfl (Or.inl ⟨rfl, rfl⟩) xw_aI (by decide) rfl (Nat.le_of_ble_eq_true rfl) ⟨Nat.le_of_ble_eq_true rfl, Nat.le_of_ble_eq_true rfl⟩ ⟨rfl, rfl, rfl⟩ ?_
  refine nx_putp (c := 8) (w := 0) (k := 2) hX ok_Wall_init rfl (Nat.le_of_ble_eq_true rfl) rfl (nx := 48) rfl (Or.inr ⟨rfl, rfl, rfl⟩) rfl ?_
  refine nx_go 2 (pc' := 51) (lv' := [.ref 1, .int (8 : Int32)]) (st' := [.int (12 : Int32), .ref 1]) hX ok_Wall_init rfl ?_
  refine nx_newa (c := 13) (w := 12) (n' := 13) (c' := 11) (s' := 88) hX ok_Wall_init (nx := 53) rfl (Or.inl ⟨rfl, rfl⟩) xw_aI (by decide) rfl (Nat.le_of_ble_eq_true rfl) ⟨Nat.le_of_ble_eq_true rfl, Nat.le_of_ble_eq_true rfl⟩ ⟨rfl, rfl, rfl⟩ ?_
  refine nx_putp (c := 8) (w := 0) (k := 3) hX ok_Wall_init rfl (Nat.le_of_ble_eq_true rfl) rfl (nx := 56) rfl (Or.inr ⟨rfl, rfl, rfl⟩) rfl ?_
  refine nx_go 2 (pc' := 59) (lv' := [.ref 1, .int (8 : Int32)]) (st' := [.int (12 : Int32), .ref 1]) hX ok_Wall_init rfl ?_
  refine nx_newa (c := 13) (w := 12) (n' := 14) (c' := 12) (s' := 100) hX ok_Wall_init (nx := 61) rfl (Or.inl ⟨rfl, rfl⟩) xw_aI (by decide) rfl (Nat.le_of_ble_eq_true rfl) ⟨Nat.le_of_ble_eq_true rfl, Nat.le_of_ble_eq_true rfl⟩ ⟨rfl, rfl, rfl⟩ ?_
  refine nx_putp (c := 8) (w := 0) (k := 4) hX ok_Wall_init rfl (Nat.le_of_ble_eq_true rfl) rfl (nx := 64) rfl (Or.inr ⟨rfl, rfl, rfl⟩) rfl ?_
  refine nx_go 2 (pc' := 67) (lv' := [.ref 1, .int (8 : Int32)]) (st' := [.int (50 : Int32), .ref 1]) hX ok_Wall_init rfl ?_
  refine nx_newa (c := 13) (w := 50) (n' := 15) (c' := 13) (s' := 150) hX ok_Wall_init (nx := 69) rfl (Or.inl ⟨rfl, rfl⟩) xw_aI (by decide) rfl (Nat.le_of_ble_eq_true rfl) ⟨Nat.le_of_ble_eq_true rfl, Nat.le_of_ble_eq_true rfl⟩ ⟨rfl, rfl, rfl⟩ ?_
  refine nx_putp (c := 8) (w := 0) (k := 6) hX ok_Wall_init rfl (Nat.le_of_ble_eq_true rfl) rfl (nx := 72) rfl (Or.inr ⟨rfl, rfl, rfl⟩) rfl ?_
  refine nx_go 2 (pc' := 74) (lv' := [.ref 1, .int (8 : Int32)]) (st' := [.int (2 : Int32), .ref 1]) hX ok_Wall_init rfl ?_
  refine nx_newq (c := 16) (w := 2) (n' := 16) (c' := 14) (s' := 152) hX ok_Wall_init (nx := 77) rfl (Or.inr ⟨rfl, rfl⟩) l_Wall_31.1 (by decide) rfl (Nat.le_of_ble_eq_true rfl) ⟨Nat.le_of_ble_eq_true rfl, Nat.le_of_ble_eq_true rfl⟩ ⟨rfl, rfl, rfl⟩ ?_
  refine nx_putp (c := 8) (w := 0) (k := 8) hX ok_Wall_init rfl (Nat.le_of_ble_eq_true rfl) rfl (nx := 80) rfl (Or.inr ⟨rfl, rfl, rfl⟩) rfl ?_
  refine nx_go 1 (pc' := 81) (lv' := [.ref 1, .int (8 : Int32)]) (st' := [.ref 1]) hX ok_Wall_init rfl ?_
  refine nx_getp (c := 8) (w := 0) (k := 8) (q := 15) hX ok_Wall_init rfl (Nat.le_of_ble_eq_true rfl) rfl (nx := 84) rfl rfl rfl ?_
  refine nx_go 1 (pc' := 85) (lv' := [.ref 1, .int (8 : Int32)]) (st' := [.int (0 : Int32), .ref 15]) hX ok_Wall_init rfl ?_
  refine nx_new (c := 7) (w := 0) (n' := 17) (c' := 15) (s' := 160) hX ok_Wall_init (nx := 88) rfl (by decide) l_Wall_31 rfl (Nat.le_of_ble_eq_true rfl) ⟨Nat.le_of_ble_eq_true rfl, Nat.le_of_ble_eq_true rfl⟩ ⟨rfl, rfl, rfl⟩ ?_
  refine nx_go 1 (pc' := 89) (lv' := [.ref 1, .int (8 : Int32)]) (st' := [.ref 16, .ref 16, .int (0 : Int32), .ref 15]) hX ok_Wall_init rfl ?_
  refine nx_I (as := []) (rest := [.ref 16, .int (0 : Int32), .ref 15]) (c' := 19) (s' := 310) hX ok_Wall_init (nx := 92) rfl l_Wall_37 rfl (Nat.le_of_ble_eq_true rfl) (n_Text_init_16 (d := 1) (by omega)) (by omega) rfl rfl (Nat.le_of_ble_eq_true rfl) ⟨Nat.le_of_ble_eq_true rfl, Nat.le_of_ble_eq_true rfl⟩ ⟨rfl, rfl⟩ ?_
  refine nx_aast (c := 16) (w := 2) (cq := 7) (wq := 0) (j := 0) hX ok_Wall_init (Nat.le_of_ble_eq_true rfl) rfl (Nat.le_of_ble_eq_true rfl) rfl (by decide) (Or.inr ⟨rfl, rfl⟩) rfl (nx := 93) rfl (by decide) (by decide) ?_
  refine nx_go 1 (pc' := 94) (lv' := [.ref 1, .int (8 : Int32)]) (st' := [.ref 1]) hX ok_Wall_init rfl ?_
  refine nx_getp (c := 8) (w := 0) (k := 8) (q := 15) hX ok_Wall_init rfl (Nat.le_of_ble_eq_true rfl) rfl (nx := 97) rfl rfl rfl ?_
  refine nx_go 1 (pc' := 98) (lv' := [.ref 1, .int (8 : Int32)]) (st' := [.int (1 : Int32), .ref 15]) hX ok_Wall_init rfl ?_
  refine nx_new (c := 7) (w := 0) (n' := 22) (c' := 20) (s' := 318) hX ok_Wall_init (nx := 101) rfl (by decide) l_Wall_31 rfl (Nat.le_of_ble_eq_true rfl) ⟨Nat.le_of_ble_eq_true rfl, Nat.le_of_ble_eq_true rfl⟩ ⟨rfl, rfl, rfl⟩ ?_
  refine nx_go 1 (pc' := 102) (lv' := [.ref 1, .int (8 : Int32)]) (st' := [.ref 21, .ref 21, .int (1 : Int32), .ref 15]) hX ok_Wall_init rfl ?_
  refine nx_I (as := []) (rest := [.ref 21, .int (1 : Int32), .ref 15]) (c' := 24) (s' := 468) hX ok_Wall_init (nx := 105) rfl l_Wall_37 rfl (Nat.le_of_ble_eq_true rfl) (n_Text_init_21 (d := 1) (by omega)) (by omega) rfl rfl (Nat.le_of_ble_eq_true rfl) ⟨Nat.le_of_ble_eq_true rfl, Nat.le_of_ble_eq_true rfl⟩ ⟨rfl, rfl⟩ ?_
  refine nx_aast (c := 16) (w := 2) (cq := 7) (wq := 0) (j := 1) hX ok_Wall_init (Nat.le_of_ble_eq_true rfl) rfl (Nat.le_of_ble_eq_true rfl) rfl (by decide) (Or.inr ⟨rfl, rfl⟩) rfl (nx := 106) rfl (by decide) (by decide) ?_
  refine nx_go 1 (pc' := 107) (lv' := [.ref 1, .int (8 : Int32)]) (st' := [.ref 1]) hX ok_Wall_init rfl ?_
  refine nx_new (c := 7) (w := 0) (n' := 27) (c' := 25) (s' := 476) hX ok_Wall_init (nx := 110) rfl (by decide) l_Wall_31 rfl (Nat.le_of_ble_eq_true rfl) ⟨Nat.le_of_ble_eq_true rfl, Nat.le_of_ble_eq_true rfl⟩ ⟨rfl, rfl, rfl⟩ ?_
  refine nx_go 1 (pc' := 111) (lv' := [.ref 1, .int (8 : Int32)]) (st' := [.ref 26, .ref 26, .ref 1]) hX ok_Wall_init rfl ?_
  refine nx_I (as := []) (rest := [.ref 26, .ref 1]) (c' := 29) (s' := 626) hX ok_Wall_init (nx := 114) rfl l_Wall_37 rfl (Nat.le_of_ble_eq_true rfl) (n_Text_init_26 (d := 1) (by omega)) (by omega) rfl rfl (Nat.le_of_ble_eq_true rfl) ⟨Nat.le_of_ble_eq_true rfl, Nat.le_of_ble_eq_true rfl⟩ ⟨rfl, rfl⟩ ?_
  refine nx_putp (c := 8) (w := 0) (k := 9) hX ok_Wall_init rfl (Nat.le_of_ble_eq_true rfl) rfl (nx := 117) rfl (Or.inr ⟨rfl, rfl, rfl⟩) rfl ?_
  refine nx_go 2 (pc' := 120) (lv' := [.ref 1, .int (8 : Int32)]) (st' := [.int (20 : Int32), .ref 1]) hX ok_Wall_init rfl ?_
  refine nx_newa (c := 13) (w := 20) (n' := 32) (c' := 30) (s' := 646) hX ok_Wall_init (nx := 122) rfl (Or.inl ⟨rfl, rfl⟩) xw_aI (by decide) rfl (Nat.le_of_ble_eq_true rfl) ⟨Nat.le_of_ble_eq_true rfl, Nat.le_of_ble_eq_true rfl⟩ ⟨rfl, rfl, rfl⟩ ?_
  refine nx_putp (c := 8) (w := 0) (k := 10) hX ok_Wall_init rfl (Nat.le_of_ble_eq_true rfl) rfl (nx := 125) rfl (Or.inr ⟨rfl, rfl, rfl⟩) rfl ?_
  refine nx_go 2 (pc' := 127) (lv' := [.ref 1, .int (8 : Int32)]) (st' := [.int (1 : Int32), .ref 1]) hX ok_Wall_init rfl ?_
  refine nx_puti (c := 8) (w := 0) (k := 12) hX ok_Wall_init rfl (Nat.le_of_ble_eq_true rfl) (Nat.le_of_ble_eq_true rfl) rfl (nx := 130) rfl rfl rfl ?_
  exact nx_vret hX hE ok_Wall_init (nx := 131) rfl rfl ⟨Nat.le_of_ble_eq_true rfl, Nat.le_of_ble_eq_true rfl⟩
def z_Text_init_47 (Z : HI) : HI := (xrow (xrow (xrow (xrow Z 48 z0) 49 z0) 50 z0) 51 z0)
def p_Text_init_47 (P : Nat → Nat → Option Nat) : Nat → Nat → Option Nat := (xup (xup (xprow (xup (xprow (xup (xprow (xup (xprow P 48 o0) 47 0 (some 48)) 49 o0) 47 1 (some 49)) 50 o0) 47 3 (some 50)) 51 o0) 47 4 (some 51)) 47 7 (some 1000002))
set_option maxRecDepth 20000 in
set_option maxHeartbeats 4000000 in
theorem n_Text_init_47 {G : xG} {d L : Nat} {O : HI} {Z : HI} {P : Nat → Nat → Option Nat} (hd : 1 ≤ d) : nM G d m_Text_init [.ref 47] L O 48 Z P 4 150 52 (z_Text_init_47 Z) (p_Text_init_47 P) := by
  refine nM.of (by decide +kernel) (Nat.le_of_ble_eq_true rfl) (lv := [.ref 47]) rfl (fun X hX hE => ?_)
  refine nx_go 1 (pc' := 1) (lv' := [.ref 47]) (st' := [.ref 47]) hX ok_Text_init rfl ?_
  refine nx_obj hX ok_Text_init (nx := 4) rfl l_Text_3 (by omega) (Nat.le_of_ble_eq_true rfl) ?_
  refine nx_go 2 (pc' := 7) (lv' := [.ref 47]) (st' := [.int (50 : Int32), .ref 47]) hX ok_Text_init rfl ?_
  refine nx_newa (c := 13) (w := 50) (n' := 49) (c' := 1) (s' := 50) hX ok_Text_init (nx := 9) rfl (Or.inl ⟨rfl, rfl⟩) xw_aI (by decide) rfl (Nat.le_of_ble_eq_true rfl) ⟨Nat.le_of_ble_eq_true rfl, Nat.le_of_ble_eq_true rfl⟩ ⟨rfl, rfl, rfl⟩ ?_
  refine nx_putp (c := 7) (w := 0) (k := 0) hX ok_Text_init rfl (Nat.le_of_ble_eq_true rfl) rfl (nx := 12) rfl (Or.inr ⟨rfl, rfl, rfl⟩) rfl ?_
  refine nx_go 2 (pc' := 15) (lv' := [.ref 47]) (st' := [.int (50 : Int32), .ref 47]) hX ok_Text_init rfl ?_
  refine nx_newa (c := 13) (w := 50) (n' := 50) (c' := 2) (s' := 100) hX ok_Text_init (nx := 17) rfl (Or.inl ⟨rfl, rfl⟩) xw_aI (by decide) rfl (Nat.le_of_ble_eq_true rfl) ⟨Nat.le_of_ble_eq_true rfl, Nat.le_of_ble_eq_true rfl⟩ ⟨rfl, rfl, rfl⟩ ?_
  refine nx_putp (c := 7) (w := 0) (k := 1) hX ok_Text_init rfl (Nat.le_of_ble_eq_true rfl) rfl (nx := 20) rfl (Or.inr ⟨rfl, rfl, rfl⟩) rfl ?_
  refine nx_go 2 (pc' := 23) (lv' := [.ref 47]) (st' := [.int (50 : Int32), .ref 47]) hX ok_Text_init rfl ?_
  refine nx_newa (c := 13) (w := 50) (n' := 51) (c' := 3) (s' := 150) hX ok_Text_init (nx := 25) rfl (Or.inl ⟨rfl, rfl⟩) xw_aI (by decide) rfl (Nat.le_of_ble_eq_true rfl) ⟨Nat.le_of_ble_eq_true rfl, Nat.le_of_ble_eq_true rfl⟩ ⟨rfl, rfl, rfl⟩ ?_
  refine nx_putp (c := 7) (w := 0) (k := 3) hX ok_Text_init rfl (Nat.le_of_ble_eq_true rfl) rfl (nx := 28) rfl (Or.inr ⟨rfl, rfl, rfl⟩) rfl ?_
  refine nx_go 2 (pc' := 30) (lv' := [.ref 47]) (st' := [.int (0 : Int32), .ref 47]) hX ok_Text_init rfl ?_
  refine nx_newa (c := 13) (w := 0) (n' := 52) (c' := 4) (s' := 150) hX ok_Text_init (nx := 32) rfl (Or.inl ⟨rfl, rfl⟩) xw_aI (by decide) rfl (Nat.le_of_ble_eq_true rfl) ⟨Nat.le_of_ble_eq_true rfl, Nat.le_of_ble_eq_true rfl⟩ ⟨rfl, rfl, rfl⟩ ?_
  refine nx_putp (c := 7) (w := 0) (k := 4) hX ok_Text_init rfl (Nat.le_of_ble_eq_true rfl) rfl (nx := 35) rfl (Or.inl rfl) rfl ?_
  refine nx_go 1 (pc' := 36) (lv' := [.ref 47]) (st' := [.ref 47]) hX ok_Text_init rfl ?_
  refine nx_str hX ok_Text_init rfl (nx := 38) rfl ?_
  refine nx_putp (c := 7) (w := 0) (k := 7) hX ok_Text_init rfl (Nat.le_of_ble_eq_true rfl) rfl (nx := 41) rfl (Or.inl rfl) rfl ?_
  exact nx_vret hX hE ok_Text_init (nx := 42) rfl rfl ⟨Nat.le_of_ble_eq_true rfl, Nat.le_of_ble_eq_true rfl⟩
def z_Text_init_52 (Z : HI) : HI := (xrow (xrow (xrow (xrow Z 53 z0) 54 z0) 55 z0) 56 z0)
def p_Text_init_52 (P : Nat → Nat → Option Nat) : Nat → Nat → Option Nat := (xup (xup (xprow (xup (xprow (xup (xprow (xup (xprow P 53 o0) 52 0 (some 53)) 54 o0) 52 1 (some 54)) 55 o0) 52 3 (some 55)) 56 o0) 52 4 (some 56)) 52 7 (some 1000002))
set_option maxRecDepth 20000 in
set_option maxHeartbeats 4000000 in
theorem n_Text_init_52 {G : xG} {d L : Nat} {O : HI} {Z : HI} {P : Nat → Nat → Option Nat} (hd : 1 ≤ d) : nM G d m_Text_init [.ref 52] L O 53 Z P 4 150 57 (z_Text_init_52 Z) (p_Text_init_52 P) := by
  refine nM.of (by decide +kernel) (Nat.le_of_ble_eq_true rfl) (lv := [.ref 52]) rfl (fun X hX hE => ?_)
  refine nx_go 1 (pc' := 1) (lv' := [.ref 52]) (st' := [.ref 52]) hX ok_Text_init rfl ?_
  refine nx_obj hX ok_Text_init (nx := 4) rfl l_Text_3 (by omega) (Nat.le_of_ble_eq_true rfl) ?_
  refine nx_go 2 (pc' := 7) (lv' := [.ref 52]) (st' := [.int (50 : Int32), .ref 52]) hX ok_Text_init rfl ?_
  refine nx_newa (c := 13) (w := 50) (n' := 54) (c' := 1) (s' := 50) hX ok_Text_init (nx := 9) rfl (Or.inl ⟨rfl, rfl⟩) xw_aI (by decide) rfl (Nat.le_of_ble_eq_true rfl) ⟨Nat.le_of_ble_eq_true rfl, Nat.le_of_ble_eq_true rfl⟩ ⟨rfl, rfl, rfl⟩ ?_
  refine nx_putp (c := 7) (w := 0) (k := 0) hX ok_Text_init rfl (Nat.le_of_ble_eq_true rfl) rfl (nx := 12) rfl (Or.inr ⟨rfl, rfl, rfl⟩) rfl ?_
  refine nx_go 2 (pc' := 15) (lv' := [.ref 52]) (st' := [.int (50 : Int32), .ref 52]) hX ok_Text_init rfl ?_
  refine nx_newa (c := 13) (w := 50) (n' := 55) (c' := 2) (s' := 100) hX ok_Text_init (nx := 17) rfl (Or.inl ⟨rfl, rfl⟩) xw_aI (by decide) rfl (Nat.le_of_ble_eq_true rfl) ⟨Nat.le_of_ble_eq_true rfl, Nat.le_of_ble_eq_true rfl⟩ ⟨rfl, rfl, rfl⟩ ?_
  refine nx_putp (c := 7) (w := 0) (k := 1) hX ok_Text_init rfl (Nat.le_of_ble_eq_true rfl) rfl (nx := 20) rfl (Or.inr ⟨rfl, rfl, rfl⟩) rfl ?_
  refine nx_go 2 (pc' := 23) (lv' := [.ref 52]) (st' := [.int (50 : Int32), .ref 52]) hX ok_Text_init rfl ?_
  refine nx_newa (c := 13) (w := 50) (n' := 56) (c' := 3) (s' := 150) hX ok_Text_init (nx := 25) rfl (Or.inl ⟨rfl, rfl⟩) xw_aI (by decide) rfl (Nat.le_of_ble_eq_true rfl) ⟨Nat.le_of_ble_eq_true rfl, Nat.le_of_ble_eq_true rfl⟩ ⟨rfl, rfl, rfl⟩ ?_
  refine nx_putp (c := 7) (w := 0) (k := 3) hX ok_Text_init rfl (Nat.le_of_ble_eq_true rfl) rfl (nx := 28) rfl (Or.inr ⟨rfl, rfl, rfl⟩) rfl ?_
  refine nx_go 2 (pc' := 30) (lv' := [.ref 52]) (st' := [.int (0 : Int32), .ref 52]) hX ok_Text_init rfl ?_
  refine nx_newa (c := 13) (w := 0) (n' := 57) (c' := 4) (s' := 150) hX ok_Text_init (nx := 32) rfl (Or.inl ⟨rfl, rfl⟩) xw_aI (by decide) rfl (Nat.le_of_ble_eq_true rfl) ⟨Nat.le_of_ble_eq_true rfl, Nat.le_of_ble_eq_true rfl⟩ ⟨rfl, rfl, rfl⟩ ?_
  refine nx_putp (c := 7) (w := 0) (k := 4) hX ok_Text_init rfl (Nat.le_of_ble_eq_true rfl) rfl (nx := 35) rfl (Or.inl rfl) rfl ?_
  refine nx_go 1 (pc' := 36) (lv' := [.ref 52]) (st' := [.ref 52]) hX ok_Text_init rfl ?_
  refine nx_str hX ok_Text_init rfl (nx := 38) rfl ?_
  refine nx_putp (c := 7) (w := 0) (k := 7) hX ok_Text_init rfl (Nat.le_of_ble_eq_true rfl) rfl (nx := 41) rfl (Or.inl rfl) rfl ?_
  exact nx_vret hX hE ok_Text_init (nx := 42) rfl rfl ⟨Nat.le_of_ble_eq_true rfl, Nat.le_of_ble_eq_true rfl⟩
def z_Text_init_57 (Z : HI) : HI := (xrow (xrow (xrow (xrow Z 58 z0) 59 z0) 60 z0) 61 z0)
def p_Text_init_57 (P : Nat → Nat → Option Nat) : Nat → Nat → Option Nat := (xup (xup (xprow (xup (xprow (xup (xprow (xup (xprow P 58 o0) 57 0 (some 58)) 59 o0) 57 1 (some 59)) 60 o0) 57 3 (some 60)) 61 o0) 57 4 (some 61)) 57 7 (some 1000002))
set_option maxRecDepth 20000 in
set_option maxHeartbeats 4000000 in
theorem n_Text_init_57 {G : xG} {d L : Nat} {O : HI} {Z : HI} {P : Nat → Nat → Option Nat} (hd : 1 ≤ d) : nM G d m_Text_init [.ref 57] L O 58 Z P 4 150 62 (z_Text_init_57 Z) (p_Text_init_57 P) := by
  refine nM.of (by decide +kernel) (Nat.le_of_ble_eq_true rfl) (lv := [.ref 57]) rfl (fun X hX hE => ?_)
  refine nx_go 1 (pc' := 1) (lv' := [.ref 57]) (st' := [.ref 57]) hX ok_Text_init rfl ?_
  refine nx_obj hX ok_Text_init (nx := 4) rfl l_Text_3 (by omega) (Nat.le_of_ble_eq_true rfl) ?_
  refine nx_go 2 (pc' := 7) (lv' := [.ref 57]) (st' := [.int (50 : Int32), .ref 57]) hX ok_Text_init rfl ?_
  refine nx_newa (c := 13) (w := 50) (n' := 59) (c' := 1) (s' := 50) hX ok_Text_init (nx := 9) rfl (Or.inl ⟨rfl, rfl⟩) xw_aI (by decide) rfl (Nat.le_of_ble_eq_true rfl) ⟨Nat.le_of_ble_eq_true rfl, Nat.le_of_ble_eq_true rfl⟩ ⟨rfl, rfl, rfl⟩ ?_
  refine nx_putp (c := 7) (w := 0) (k := 0) hX ok_Text_init rfl (Nat.le_of_ble_eq_true rfl) rfl (nx := 12) rfl (Or.inr ⟨rfl, rfl, rfl⟩) rfl ?_
  refine nx_go 2 (pc' := 15) (lv' := [.ref 57]) (st' := [.int (50 : Int32), .ref 57]) hX ok_Text_init rfl ?_
  refine nx_newa (c := 13) (w := 50) (n' := 60) (c' := 2) (s' := 100) hX ok_Text_init (nx := 17) rfl (Or.inl ⟨rfl, rfl⟩) xw_aI (by decide) rfl (Nat.le_of_ble_eq_true rfl) ⟨Nat.le_of_ble_eq_true rfl, Nat.le_of_ble_eq_true rfl⟩ ⟨rfl, rfl, rfl⟩ ?_
  refine nx_putp (c := 7) (w := 0) (k := 1) hX ok_Text_init rfl (Nat.le_of_ble_eq_true rfl) rfl (nx := 20) rfl (Or.inr ⟨rfl, rfl, rfl⟩) rfl ?_
  refine nx_go 2 (pc' := 23) (lv' := [.ref 57]) (st' := [.int (50 : Int32), .ref 57]) hX ok_Text_init rfl ?_
  refine nx_newa (c := 13) (w := 50) (n' := 61) (c' := 3) (s' := 150) hX ok_Text_init (nx := 25) rfl (Or.inl ⟨rfl, rfl⟩) xw_aI (by decide) rfl (Nat.le_of_ble_eq_true rfl) ⟨Nat.le_of_ble_eq_true rfl, Nat.le_of_ble_eq_true rfl⟩ ⟨rfl, rfl, rfl⟩ ?_
  refine nx_putp (c := 7) (w := 0) (k := 3) hX ok_Text_init rfl (Nat.le_of_ble_eq_true rfl) rfl (nx := 28) rfl (Or.inr ⟨rfl, rfl, rfl⟩) rfl ?_
  refine nx_go 2 (pc' := 30) (lv' := [.ref 57]) (st' := [.int (0 : Int32), .ref 57]) hX ok_Text_init rfl ?_
  refine nx_newa (c := 13) (w := 0) (n' := 62) (c' := 4) (s' := 150) hX ok_Text_init (nx := 32) rfl (Or.inl ⟨rfl, rfl⟩) xw_aI (by decide) rfl (Nat.le_of_ble_eq_true rfl) ⟨Nat.le_of_ble_eq_true rfl, Nat.le_of_ble_eq_true rfl⟩ ⟨rfl, rfl, rfl⟩ ?_
  refine nx_putp (c := 7) (w := 0) (k := 4) hX ok_Text_init rfl (Nat.le_of_ble_eq_true rfl) rfl (nx := 35) rfl (Or.inl rfl) rfl ?_
  refine nx_go 1 (pc' := 36) (lv' := [.ref 57]) (st' := [.ref 57]) hX ok_Text_init rfl ?_
  refine nx_str hX ok_Text_init rfl (nx := 38) rfl ?_
  refine nx_putp (c := 7) (w := 0) (k := 7) hX ok_Text_init rfl (Nat.le_of_ble_eq_true rfl) rfl (nx := 41) rfl (Or.inl rfl) rfl ?_
  exact nx_vret hX hE ok_Text_init (nx := 42) rfl rfl ⟨Nat.le_of_ble_eq_true rfl, Nat.le_of_ble_eq_true rfl⟩
def z_Wall_init_32 (Z : HI) : HI := (xu (xrow (z_Text_init_57 (xrow (z_Text_init_52 (xrow (z_Text_init_47 (xrow (xrow (xrow (xrow (xrow (xrow (xu (xrow (xu (xrow (xu (xrow (xu (xrow (xu (xrow (xu (xrow (xu (xrow (xu (xrow (xrow Z 33 z0) 34 z0) 34 5 9999) 35 z0) 35 5 9999) 36 z0) 36 5 9999) 37 z0) 37 5 9999) 38 z0) 38 5 9999) 39 z0) 39 5 9999) 40 z0) 40 5 9999) 41 z0) 41 5 9999) 42 z0) 43 z0) 44 z0) 45 z0) 46 z0) 47 z0)) 52 z0)) 57 z0)) 62 z0) 32 12 1)
def p_Wall_init_32 (P : Nat → Nat → Option Nat) : Nat → Nat → Option Nat := (xup (xprow (xup (p_Text_init_57 (xprow (xup (p_Text_init_52 (xprow (xup (p_Text_init_47 (xprow (xup (xprow (xup (xprow (xup (xprow (xup (xprow (xup (xprow (xup (xprow (xup (xprow (xup (xprow (xup (xprow (xup (xprow (xup (xprow (xup (xprow (xup (xprow (xup (xprow P 33 o0) 32 0 (some 33)) 34 o0) 33 0 (some 34)) 35 o0) 33 1 (some 35)) 36 o0) 33 2 (some 36)) 37 o0) 33 3 (some 37)) 38 o0) 33 4 (some 38)) 39 o0) 33 5 (some 39)) 40 o0) 33 6 (some 40)) 41 o0) 33 7 (some 41)) 42 o0) 32 2 (some 42)) 43 o0) 32 3 (some 43)) 44 o0) 32 4 (some 44)) 45 o0) 32 6 (some 45)) 46 o0) 32 8 (some 46)) 47 o0)) 46 0 (some 47)) 52 o0)) 46 1 (some 52)) 57 o0)) 32 9 (some 57)) 62 o0) 32 10 (some 62))
set_option maxRecDepth 20000 in
set_option maxHeartbeats 4000000 in
theorem n_Wall_init_32 {G : xG} {d L : Nat} {O : HI} {Z : HI} {P : Nat → Nat → Option Nat} (hd : 2 ≤ d) : nM G d m_Wall_init [.ref 32] L O 33 Z P 30 646 63 (z_Wall_init_32 Z) (p_Wall_init_32 P) := by
  refine nM.of (by decide +kernel) (Nat.le_of_ble_eq_true rfl) (lv := [.ref 32, .null]) rfl (fun X hX hE => ?_)
  refine nx_go 1 (pc' := 1) (lv' := [.ref 32, .null]) (st' := [.ref 32]) hX ok_Wall_init rfl ?_
  refine nx_obj hX ok_Wall_init (nx := 4) rfl l_Wall_3 (by omega) (Nat.le_of_ble_eq_true rfl) ?_
  refine nx_go 2 (pc' := 7) (lv' := [.ref 32, .null]) (st' := [.int (8 : Int32), .ref 32]) hX ok_Wall_init rfl ?_
  refine nx_newq (c := 15) (w := 8) (n' := 34) (c' := 1) (s' := 8) hX ok_Wall_init (nx := 10) rfl (Or.inl ⟨rfl, rfl⟩) l_Wall_9.1 (by decide) rfl (Nat.le_of_ble_eq_true rfl) ⟨Nat.le_of_ble_eq_true rfl, Nat.le_of_ble_eq_true rfl⟩ ⟨rfl, rfl, rfl⟩ ?_
  refine nx_putp (c := 8) (w := 0) (k := 0) hX ok_Wall_init rfl (Nat.le_of_ble_eq_true rfl) rfl (nx := 13) rfl (Or.inr ⟨rfl, rfl, rfl⟩) rfl ?_
  refine nx_go 5 (pc' := if (8 : Int32) ≤ 0 then 40 else 21) (lv' := [.ref 32, .int (0 : Int32)]) (st' := []) hX ok_Wall_init rfl ?_
  refine nx_no (by decide) ?_
  refine nx_go 1 (pc' := 22) (lv' := [.ref 32, .int (0 : Int32)]) (st' := [.ref 32]) hX ok_Wall_init rfl ?_
  refine nx_getp (c := 8) (w := 0) (k := 0) (q := 33) hX ok_Wall_init rfl (Nat.le_of_ble_eq_true rfl) rfl (nx := 25) rfl rfl rfl ?_
  refine nx_go 1 (pc' := 26) (lv' := [.ref 32, .int (0 : Int32)]) (st' := [.int (0 : Int32), .ref 33]) hX ok_Wall_init rfl ?_
  refine nx_new (c := 0) (w := 0) (n' := 35) (c' := 2) (s' := 15) hX ok_Wall_init (nx := 29) rfl (by decide) l_Wall_9 rfl (Nat.le_of_ble_eq_true rfl) ⟨Nat.le_of_ble_eq_true rfl, Nat.le_of_ble_eq_true rfl⟩ ⟨rfl, rfl, rfl⟩ ?_
  refine nx_go 1 (pc' := 30) (lv' := [.ref 32, .int (0 : Int32)]) (st' := [.ref 34, .ref 34, .int (0 : Int32), .ref 33]) hX ok_Wall_init rfl ?_
  refine nx_I (as := []) (rest := [.ref 34, .int (0 : Int32), .ref 33]) (c' := 2) (s' := 15) hX ok_Wall_init (nx := 33) rfl l_Wall_17 rfl (Nat.le_of_ble_eq_true rfl) (n_Stroke_init (d := 1) (r := 34) (by omega) (Nat.le_of_ble_eq_true rfl) (Nat.le_of_ble_eq_true rfl) rfl) (by omega) rfl rfl (Nat.le_of_ble_eq_true rfl) ⟨Nat.le_of_ble_eq_true rfl, Nat.le_of_ble_eq_true rfl⟩ ⟨rfl, rfl⟩ ?_
  refine nx_aast (c := 15) (w := 8) (cq := 0) (wq := 0) (j := 0) hX ok_Wall_init (Nat.le_of_ble_eq_true rfl) rfl (Nat.le_of_ble_eq_true rfl) rfl (by decide) (Or.inl ⟨rfl, rfl⟩) rfl (nx := 34) rfl (by decide) (by decide) ?_
  refine nx_go 1 (pc' := 37) (lv' := [.ref 32, .int ((0 : Int32) + 1)]) (st' := []) hX ok_Wall_init rfl ?_
  rw [show ((0 : Int32) + 1) = 1 from by decide]
  refine nx_go 4 (pc' := if (8 : Int32) ≤ 1 then 40 else 21) (lv' := [.ref 32, .int (1 : Int32)]) (st' := []) hX ok_Wall_init rfl ?_
  refine nx_no (by decide) ?_
  refine nx_go 1 (pc' := 22) (lv' := [.ref 32, .int (1 : Int32)]) (st' := [.ref 32]) hX ok_Wall_init rfl ?_
  refine nx_getp (c := 8) (w := 0) (k := 0) (q := 33) hX ok_Wall_init rfl (Nat.le_of_ble_eq_true rfl) rfl (nx := 25) rfl rfl rfl ?_
  refine nx_go 1 (pc' := 26) (lv' := [.ref 32, .int (1 : Int32)]) (st' := [.int (1 : Int32), .ref 33]) hX ok_Wall_init rfl ?_
  refine nx_new (c := 0) (w := 0) (n' := 36) (c' := 3) (s' := 22) hX ok_Wall_init (nx := 29) rfl (by decide) l_Wall_9 rfl (Nat.le_of_ble_eq_true rfl) ⟨Nat.le_of_ble_eq_true rfl, Nat.le_of_ble_eq_true rfl⟩ ⟨rfl, rfl, rfl⟩ ?_
  refine nx_go 1 (pc' := 30) (lv' := [.ref 32, .int (1 : Int32)]) (st' := [.ref 35, .ref 35, .int (1 : Int32), .ref 33]) hX ok_Wall_init rfl ?_
  refine nx_I (as := []) (rest := [.ref 35, .int (1 : Int32), .ref 33]) (c' := 3) (s' := 22) hX ok_Wall_init (nx := 33) rfl l_Wall_17 rfl (Nat.le_of_ble_eq_true rfl) (n_Stroke_init (d := 1) (r := 35) (by omega) (Nat.le_of_ble_eq_true rfl) (Nat.le_of_ble_eq_true rfl) rfl) (by omega) rfl rfl (Nat.le_of_ble_eq_true rfl) ⟨Nat.le_of_ble_eq_true rfl, Nat.le_of_ble_eq_true rfl⟩ ⟨rfl, rfl⟩ ?_
  refine nx_aast (c := 15) (w := 8) (cq := 0) (wq := 0) (j := 1) hX ok_Wall_init (Nat.le_of_ble_eq_true rfl) rfl (Nat.le_of_ble_eq_true rfl) rfl (by decide) (Or.inl ⟨rfl, rfl⟩) rfl (nx := 34) rfl (by decide) (by decide) ?_
  refine nx_go 1 (pc' := 37) (lv' := [.ref 32, .int ((1 : Int32) + 1)]) (st' := []) hX ok_Wall_init rfl ?_
  rw [show ((1 : Int32) + 1) = 2 from by decide]
  refine nx_go 4 (pc' := if (8 : Int32) ≤ 2 then 40 else 21) (lv' := [.ref 32, .int (2 : Int32)]) (st' := []) hX ok_Wall_init rfl ?_
  refine nx_no (by decide) ?_
  refine nx_go 1 (pc' := 22) (lv' := [.ref 32, .int (2 : Int32)]) (st' := [.ref 32]) hX ok_Wall_init rfl ?_
  refine nx_getp (c := 8) (w := 0) (k := 0) (q := 33) hX ok_Wall_init rfl (Nat.le_of_ble_eq_true rfl) rfl (nx := 25) rfl rfl rfl ?_
  refine nx_go 1 (pc' := 26) (lv' := [.ref 32, .int (2 : Int32)]) (st' := [.int (2 : Int32), .ref 33]) hX ok_Wall_init rfl ?_
  refine nx_new (c := 0) (w := 0) (n' := 37) (c' := 4) (s' := 29) hX ok_Wall_init (nx := 29) rfl (by decide) l_Wall_9 rfl (Nat.le_of_ble_eq_true rfl) ⟨Nat.le_of_ble_eq_true rfl, Nat.le_of_ble_eq_true rfl⟩ ⟨rfl, rfl, rfl⟩ ?_
  refine nx_go 1 (pc' := 30) (lv' := [.ref 32, .int (2 : Int32)]) (st' := [.ref 36, .ref 36, .int (2 : Int32), .ref 33]) hX ok_Wall_init rfl ?_
  refine nx_I (as := []) (rest := [.ref 36, .int (2 : Int32), .ref 33]) (c' := 4) (s' := 29) hX ok_Wall_init (nx := 33) rfl l_Wall_17 rfl (Nat.le_of_ble_eq_true rfl) (n_Stroke_init (d := 1) (r := 36) (by omega) (Nat.le_of_ble_eq_true rfl) (Nat.le_of_ble_eq_true rfl) rfl) (by omega) rfl rfl (Nat.le_of_ble_eq_true rfl) ⟨Nat.le_of_ble_eq_true rfl, Nat.le_of_ble_eq_true rfl⟩ ⟨rfl, rfl⟩ ?_
  refine nx_aast (c := 15) (w := 8) (cq := 0) (wq := 0) (j := 2) hX ok_Wall_init (Nat.le_of_ble_eq_true rfl) rfl (Nat.le_of_ble_eq_true rfl) rfl (by decide) (Or.inl ⟨rfl, rfl⟩) rfl (nx := 34) rfl (by decide) (by decide) ?_
  refine nx_go 1 (pc' := 37) (lv' := [.ref 32, .int ((2 : Int32) + 1)]) (st' := []) hX ok_Wall_init rfl ?_
  rw [show ((2 : Int32) + 1) = 3 from by decide]
  refine nx_go 4 (pc' := if (8 : Int32) ≤ 3 then 40 else 21) (lv' := [.ref 32, .int (3 : Int32)]) (st' := []) hX ok_Wall_init rfl ?_
  refine nx_no (by decide) ?_
  refine nx_go 1 (pc' := 22) (lv' := [.ref 32, .int (3 : Int32)]) (st' := [.ref 32]) hX ok_Wall_init rfl ?_
  refine nx_getp (c := 8) (w := 0) (k := 0) (q := 33) hX ok_Wall_init rfl (Nat.le_of_ble_eq_true rfl) rfl (nx := 25) rfl rfl rfl ?_
  refine nx_go 1 (pc' := 26) (lv' := [.ref 32, .int (3 : Int32)]) (st' := [.int (3 : Int32), .ref 33]) hX ok_Wall_init rfl ?_
  refine nx_new (c := 0) (w := 0) (n' := 38) (c' := 5) (s' := 36) hX ok_Wall_init (nx := 29) rfl (by decide) l_Wall_9 rfl (Nat.le_of_ble_eq_true rfl) ⟨Nat.le_of_ble_eq_true rfl, Nat.le_of_ble_eq_true rfl⟩ ⟨rfl, rfl, rfl⟩ ?_
  refine nx_go 1 (pc' := 30) (lv' := [.ref 32, .int (3 : Int32)]) (st' := [.ref 37, .ref 37, .int (3 : Int32), .ref 33]) hX ok_Wall_init rfl ?_
  refine nx_I (as := []) (rest := [.ref 37, .int (3 : Int32), .ref 33]) (c' := 5) (s' := 36) hX ok_Wall_init (nx := 33) rfl l_Wall_17 rfl (Nat.le_of_ble_eq_true rfl) (n_Stroke_init (d := 1) (r := 37) (by omega) (Nat.le_of_ble_eq_true rfl) (Nat.le_of_ble_eq_true rfl) rfl) (by omega) rfl rfl (Nat.le_of_ble_eq_true rfl) ⟨Nat.le_of_ble_eq_true rfl, Nat.le_of_ble_eq_true rfl⟩ ⟨rfl, rfl⟩ ?_
  refine nx_aast (c := 15) (w := 8) (cq := 0) (wq := 0) (j := 3) hX ok_Wall_init (Nat.le_of_ble_eq_true rfl) rfl (Nat.le_of_ble_eq_true rfl) rfl (by decide) (Or.inl ⟨rfl, rfl⟩) rfl (nx := 34) rfl (by decide) (by decide) ?_
  refine nx_go 1 (pc' := 37) (lv' := [.ref 32, .int ((3 : Int32) + 1)]) (st' := []) hX ok_Wall_init rfl ?_
  rw [show ((3 : Int32) + 1) = 4 from by decide]
  refine nx_go 4 (pc' := if (8 : Int32) ≤ 4 then 40 else 21) (lv' := [.ref 32, .int (4 : Int32)]) (st' := []) hX ok_Wall_init rfl ?_
  refine nx_no (by decide) ?_
  refine nx_go 1 (pc' := 22) (lv' := [.ref 32, .int (4 : Int32)]) (st' := [.ref 32]) hX ok_Wall_init rfl ?_
  refine nx_getp (c := 8) (w := 0) (k := 0) (q := 33) hX ok_Wall_init rfl (Nat.le_of_ble_eq_true rfl) rfl (nx := 25) rfl rfl rfl ?_
  refine nx_go 1 (pc' := 26) (lv' := [.ref 32, .int (4 : Int32)]) (st' := [.int (4 : Int32), .ref 33]) hX ok_Wall_init rfl ?_
  refine nx_new (c := 0) (w := 0) (n' := 39) (c' := 6) (s' := 43) hX ok_Wall_init (nx := 29) rfl (by decide) l_Wall_9 rfl (Nat.le_of_ble_eq_true rfl) ⟨Nat.le_of_ble_eq_true rfl, Nat.le_of_ble_eq_true rfl⟩ ⟨rfl, rfl, rfl⟩ ?_
  refine nx_go 1 (pc' := 30) (lv' := [.ref 32, .int (4 : Int32)]) (st' := [.ref 38, .ref 38, .int (4 : Int32), .ref 33]) hX ok_Wall_init rfl ?_
  refine nx_I (as := []) (rest := [.ref 38, .int (4 : Int32), .ref 33]) (c' := 6) (s' := 43) hX ok_Wall_init (nx := 33) rfl l_Wall_17 rfl (Nat.le_of_ble_eq_true rfl) (n_Stroke_init (d := 1) (r := 38) (by omega) (Nat.le_of_ble_eq_true rfl) (Nat.le_of_ble_eq_true rfl) rfl) (by omega) rfl rfl (Nat.le_of_ble_eq_true rfl) ⟨Nat.le_of_ble_eq_true rfl, Nat.le_of_ble_eq_true rfl⟩ ⟨rfl, rfl⟩ ?_
  refine nx_aast (c := 15) (w := 8) (cq := 0) (wq := 0) (j := 4) hX ok_Wall_init (Nat.le_of_ble_eq_true rfl) rfl (Nat.le_of_ble_eq_true rfl) rfl (by decide) (Or.inl ⟨rfl, rfl⟩) rfl (nx := 34) rfl (by decide) (by decide) ?_
  refine nx_go 1 (pc' := 37) (lv' := [.ref 32, .int ((4 : Int32) + 1)]) (st' := []) hX ok_Wall_init rfl ?_
  rw [show ((4 : Int32) + 1) = 5 from by decide]
  refine nx_go 4 (pc' := if (8 : Int32) ≤ 5 then 40 else 21) (lv' := [.ref 32, .int (5 : Int32)]) (st' := []) hX ok_Wall_init rfl ?_
  refine nx_no (by decide) ?_
  refine nx_go 1 (pc' := 22) (lv' := [.ref 32, .int (5 : Int32)]) (st' := [.ref 32]) hX ok_Wall_init rfl ?_
  refine nx_getp (c := 8) (w := 0) (k := 0) (q := 33) hX ok_Wall_init rfl (Nat.le_of_ble_eq_true rfl) rfl (nx := 25) rfl rfl rfl ?_
  refine nx_go 1 (pc' := 26) (lv' := [.ref 32, .int (5 : Int32)]) (st' := [.int (5 : Int32), .ref 33]) hX ok_Wall_init rfl ?_
  refine nx_new (c := 0) (w := 0) (n' := 40) (c' := 7) (s' := 50) hX ok_Wall_init (nx := 29) rfl (by decide) l_Wall_9 rfl (Nat.le_of_ble_eq_true rfl) ⟨Nat.le_of_ble_eq_true rfl, Nat.le_of_ble_eq_true rfl⟩ ⟨rfl, rfl, rfl⟩ ?_
  refine nx_go 1 (pc' := 30) (lv' := [.ref 32, .int (5 : Int32)]) (st' := [.ref 39, .ref 39, .int (5 : Int32), .ref 33]) hX ok_Wall_init rfl ?_
  refine nx_I (as := []) (rest := [.ref 39, .int (5 : Int32), .ref 33]) (c' := 7) (s' := 50) hX ok_Wall_init (nx := 33) rfl l_Wall_17 rfl (Nat.le_of_ble_eq_true rfl) (n_Stroke_init (d := 1) (r := 39) (by omega) (Nat.le_of_ble_eq_true rfl) (Nat.le_of_ble_eq_true rfl) rfl) (by omega) rfl rfl (Nat.le_of_ble_eq_true rfl) ⟨Nat.le_of_ble_eq_true rfl, Nat.le_of_ble_eq_true rfl⟩ ⟨rfl, rfl⟩ ?_
  refine nx_aast (c := 15) (w := 8) (cq := 0) (wq := 0) (j := 5) hX ok_Wall_init (Nat.le_of_ble_eq_true rfl) rfl (Nat.le_of_ble_eq_true rfl) rfl (by decide) (Or.inl ⟨rfl, rfl⟩) rfl (nx := 34) rfl (by decide) (by decide) ?_
  refine nx_go 1 (pc' := 37) (lv' := [.ref 32, .int ((5 : Int32) + 1)]) (st' := []) hX ok_Wall_init rfl ?_
  rw [show ((5 : Int32) + 1) = 6 from by decide]
  refine nx_go 4 (pc' := if (8 : Int32) ≤ 6 then 40 else 21) (lv' := [.ref 32, .int (6 : Int32)]) (st' := []) hX ok_Wall_init rfl ?_
  refine nx_no (by decide) ?_
  refine nx_go 1 (pc' := 22) (lv' := [.ref 32, .int (6 : Int32)]) (st' := [.ref 32]) hX ok_Wall_init rfl ?_
  refine nx_getp (c := 8) (w := 0) (k := 0) (q := 33) hX ok_Wall_init rfl (Nat.le_of_ble_eq_true rfl) rfl (nx := 25) rfl rfl rfl ?_
  refine nx_go 1 (pc' := 26) (lv' := [.ref 32, .int (6 : Int32)]) (st' := [.int (6 : Int32), .ref 33]) hX ok_Wall_init rfl ?_
  refine nx_new (c := 0) (w := 0) (n' := 41) (c' := 8) (s' := 57) hX ok_Wall_init (nx := 29) rfl (by decide) l_Wall_9 rfl (Nat.le_of_ble_eq_true rfl) ⟨Nat.le_of_ble_eq_true rfl, Nat.le_of_ble_eq_true rfl⟩ ⟨rfl, rfl, rfl⟩ ?_
  refine nx_go 1 (pc' := 30) (lv' := [.ref 32, .int (6 : Int32)]) (st' := [.ref 40, .ref 40, .int (6 : Int32), .ref 33]) hX ok_Wall_init rfl ?_
  refine nx_I (as := []) (rest := [.ref 40, .int (6 : Int32), .ref 33]) (c' := 8) (s' := 57) hX ok_Wall_init (nx := 33) rfl l_Wall_17 rfl (Nat.le_of_ble_eq_true rfl) (n_Stroke_init (d := 1) (r := 40) (by omega) (Nat.le_of_ble_eq_true rfl) (Nat.le_of_ble_eq_true rfl) rfl) (by omega) rfl rfl (Nat.le_of_ble_eq_true rfl) ⟨Nat.le_of_ble_eq_true rfl, Nat.le_of_ble_eq_true rfl⟩ ⟨rfl, rfl⟩ ?_
  refine nx_aast (c := 15) (w := 8) (cq := 0) (wq := 0) (j := 6) hX ok_Wall_init (Nat.le_of_ble_eq_true rfl) rfl (Nat.le_of_ble_eq_true rfl) rfl (by decide) (Or.inl ⟨rfl, rfl⟩) rfl (nx := 34) rfl (by decide) (by decide) ?_
  refine nx_go 1 (pc' := 37) (lv' := [.ref 32, .int ((6 : Int32) + 1)]) (st' := []) hX ok_Wall_init rfl ?_
  rw [show ((6 : Int32) + 1) = 7 from by decide]
  refine nx_go 4 (pc' := if (8 : Int32) ≤ 7 then 40 else 21) (lv' := [.ref 32, .int (7 : Int32)]) (st' := []) hX ok_Wall_init rfl ?_
  refine nx_no (by decide) ?_
  refine nx_go 1 (pc' := 22) (lv' := [.ref 32, .int (7 : Int32)]) (st' := [.ref 32]) hX ok_Wall_init rfl ?_
  refine nx_getp (c := 8) (w := 0) (k := 0) (q := 33) hX ok_Wall_init rfl (Nat.le_of_ble_eq_true rfl) rfl (nx := 25) rfl rfl rfl ?_
  refine nx_go 1 (pc' := 26) (lv' := [.ref 32, .int (7 : Int32)]) (st' := [.int (7 : Int32), .ref 33]) hX ok_Wall_init rfl ?_
  refine nx_new (c := 0) (w := 0) (n' := 42) (c' := 9) (s' := 64) hX ok_Wall_init (nx := 29) rfl (by decide) l_Wall_9 rfl (Nat.le_of_ble_eq_true rfl) ⟨Nat.le_of_ble_eq_true rfl, Nat.le_of_ble_eq_true rfl⟩ ⟨rfl, rfl, rfl⟩ ?_
  refine nx_go 1 (pc' := 30) (lv' := [.ref 32, .int (7 : Int32)]) (st' := [.ref 41, .ref 41, .int (7 : Int32), .ref 33]) hX ok_Wall_init rfl ?_
  refine nx_I (as := []) (rest := [.ref 41, .int (7 : Int32), .ref 33]) (c' := 9) (s' := 64) hX ok_Wall_init (nx := 33) rfl l_Wall_17 rfl (Nat.le_of_ble_eq_true rfl) (n_Stroke_init (d := 1) (r := 41) (by omega) (Nat.le_of_ble_eq_true rfl) (Nat.le_of_ble_eq_true rfl) rfl) (by omega) rfl rfl (Nat.le_of_ble_eq_true rfl) ⟨Nat.le_of_ble_eq_true rfl, Nat.le_of_ble_eq_true rfl⟩ ⟨rfl, rfl⟩ ?_
  refine nx_aast (c := 15) (w := 8) (cq := 0) (wq := 0) (j := 7) hX ok_Wall_init (Nat.le_of_ble_eq_true rfl) rfl (Nat.le_of_ble_eq_true rfl) rfl (by decide) (Or.inl ⟨rfl, rfl⟩) rfl (nx := 34) rfl (by decide) (by decide) ?_
  refine nx_go 1 (pc' := 37) (lv' := [.ref 32, .int ((7 : Int32) + 1)]) (st' := []) hX ok_Wall_init rfl ?_
  rw [show ((7 : Int32) + 1) = 8 from by decide]
  refine nx_go 4 (pc' := if (8 : Int32) ≤ 8 then 40 else 21) (lv' := [.ref 32, .int (8 : Int32)]) (st' := []) hX ok_Wall_init rfl ?_
  refine nx_yes (by decide) ?_
  refine nx_go 2 (pc' := 43) (lv' := [.ref 32, .int (8 : Int32)]) (st' := [.int (12 : Int32), .ref 32]) hX ok_Wall_init rfl ?_
  refine nx_newa (c := 13) (w := 12) (n' := 43) (c' := 10) (s' := 76) hX ok_Wall_init (nx := 45) rfl (Or.inl ⟨rfl, rfl⟩) xw_aI (by decide) rfl (Nat.le_of_ble_eq_true rfl) ⟨Nat.le_of_ble_eq_true rfl, Nat.le_of_ble_eq_true rfl⟩ ⟨rfl, rfl, rfl⟩ ?_
  refine nx_putp (c := 8) (w := 0) (k := 2) hX ok_Wall_init rfl (Nat.le_of_ble_eq_true rfl) rfl (nx := 48) rfl (Or.inr ⟨rfl, rfl, rfl⟩) rfl ?_
  refine nx_go 2 (pc' := 51) (lv' := [.ref 32, .int (8 : Int32)]) (st' := [.int (12 : Int32), .ref 32]) hX ok_Wall_init rfl ?_
  refine nx_newa (c := 13) (w := 12) (n' := 44) (c' := 11) (s' := 88) hX ok_Wall_init (nx := 53) rfl (Or.inl ⟨rfl, rfl⟩) xw_aI (by decide) rfl (Nat.le_of_ble_eq_true rfl) ⟨Nat.le_of_ble_eq_true rfl, Nat.le_of_ble_eq_true rfl⟩ ⟨rfl, rfl, rfl⟩ ?_
  refine nx_putp (c := 8) (w := 0) (k := 3) hX ok_Wall_init rfl (Nat.le_of_ble_eq_true rfl) rfl (nx := 56) rfl (Or.inr ⟨rfl, rfl, rfl⟩) rfl ?_
  refine nx_go 2 (pc' := 59) (lv' := [.ref 32, .int (8 : Int32)]) (st' := [.int (12 : Int32), .ref 32]) hX ok_Wall_init rfl ?_
  refine nx_newa (c := 13) (w := 12) (n' := 45) (c' := 12) (s' := 100) hX ok_Wall_init (nx := 61) rfl (Or.inl ⟨rfl, rfl⟩) xw_aI (by decide) rfl (Nat.le_of_ble_eq_true rfl) ⟨Nat.le_of_ble_eq_true rfl, Nat.le_of_ble_eq_true rfl⟩ ⟨rfl, rfl, rfl⟩ ?_
  refine nx_putp (c := 8) (w := 0) (k := 4) hX ok_Wall_init rfl (Nat.le_of_ble_eq_true rfl) rfl (nx := 64) rfl (Or.inr ⟨rfl, rfl, rfl⟩) rfl ?_
  refine nx_go 2 (pc' := 67) (lv' := [.ref 32, .int (8 : Int32)]) (st' := [.int (50 : Int32), .ref 32]) hX ok_Wall_init rfl ?_
  refine nx_newa (c := 13) (w := 50) (n' := 46) (c' := 13) (s' := 150) hX ok_Wall_init (nx := 69) rfl (Or.inl ⟨rfl, rfl⟩) xw_aI (by decide) rfl (Nat.le_of_ble_eq_true rfl) ⟨Nat.le_of_ble_eq_true rfl, Nat.le_of_ble_eq_true rfl⟩ ⟨rfl, rfl, rfl⟩ ?_
  refine nx_putp (c := 8) (w := 0) (k := 6) hX ok_Wall_init rfl (Nat.le_of_ble_eq_true rfl) rfl (nx := 72) rfl (Or.inr ⟨rfl, rfl, rfl⟩) rfl ?_
  refine nx_go 2 (pc' := 74) (lv' := [.ref 32, .int (8 : Int32)]) (st' := [.int (2 : Int32), .ref 32]) hX ok_Wall_init rfl ?_
  refine nx_newq (c := 16) (w := 2) (n' := 47) (c' := 14) (s' := 152) hX ok_Wall_init (nx := 77) rfl (Or.inr ⟨rfl, rfl⟩) l_Wall_31.1 (by decide) rfl (Nat.le_of_ble_eq_true rfl) ⟨Nat.le_of_ble_eq_true rfl, Nat.le_of_ble_eq_true rfl⟩ ⟨rfl, rfl, rfl⟩ ?_
  refine nx_putp (c := 8) (w := 0) (k := 8) hX ok_Wall_init rfl (Nat.le_of_ble_eq_true rfl) rfl (nx := 80) rfl (Or.inr ⟨rfl, rfl, rfl⟩) rfl ?_
  refine nx_go 1 (pc' := 81) (lv' := [.ref 32, .int (8 : Int32)]) (st' := [.ref 32]) hX ok_Wall_init rfl ?_
  refine nx_getp (c := 8) (w := 0) (k := 8) (q := 46) hX ok_Wall_init rfl (Nat.le_of_ble_eq_true rfl) rfl (nx := 84) rfl rfl rfl ?_
  refine nx_go 1 (pc' := 85) (lv' := [.ref 32, .int (8 : Int32)]) (st' := [.int (0 : Int32), .ref 46]) hX ok_Wall_init rfl ?_
  refine nx_new (c := 7) (w := 0) (n' := 48) (c' := 15) (s' := 160) hX ok_Wall_init (nx := 88) rfl (by decide) l_Wall_31 rfl (Nat.le_of_ble_eq_true rfl) ⟨Nat.le_of_ble_eq_true rfl, Nat.le_of_ble_eq_true rfl⟩ ⟨rfl, rfl, rfl⟩ ?_
  refine nx_go 1 (pc' := 89) (lv' := [.ref 32, .int (8 : Int32)]) (st' := [.ref 47, .ref 47, .int (0 : Int32), .ref 46]) hX ok_Wall_init rfl ?_
  refine nx_I (as := []) (rest := [.ref 47, .int (0 : Int32), .ref 46]) (c' := 19) (s' := 310) hX ok_Wall_init (nx := 92) rfl l_Wall_37 rfl (Nat.le_of_ble_eq_true rfl) (n_Text_init_47 (d := 1) (by omega)) (by omega) rfl rfl (Nat.le_of_ble_eq_true rfl) ⟨Nat.le_of_ble_eq_true rfl, Nat.le_of_ble_eq_true rfl⟩ ⟨rfl, rfl⟩ ?_
  refine nx_aast (c := 16) (w := 2) (cq := 7) (wq := 0) (j := 0) hX ok_Wall_init (Nat.le_of_ble_eq_true rfl) rfl (Nat.le_of_ble_eq_true rfl) rfl (by decide) (Or.inr ⟨rfl, rfl⟩) rfl (nx := 93) rfl (by decide) (by decide) ?_
  refine nx_go 1 (pc' := 94) (lv' := [.ref 32, .int (8 : Int32)]) (st' := [.ref 32]) hX ok_Wall_init rfl ?_
  refine nx_getp (c := 8) (w := 0) (k := 8) (q := 46) hX ok_Wall_init rfl (Nat.le_of_ble_eq_true rfl) rfl (nx := 97) rfl rfl rfl ?_
  refine nx_go 1 (pc' := 98) (lv' := [.ref 32, .int (8 : Int32)]) (st' := [.int (1 : Int32), .ref 46]) hX ok_Wall_init rfl ?_
  refine nx_new (c := 7) (w := 0) (n' := 53) (c' := 20) (s' := 318) hX ok_Wall_init (nx := 101) rfl (by decide) l_Wall_31 rfl (Nat.le_of_ble_eq_true rfl) ⟨Nat.le_of_ble_eq_true rfl, Nat.le_of_ble_eq_true rfl⟩ ⟨rfl, rfl, rfl⟩ ?_
  refine nx_go 1 (pc' := 102) (lv' := [.ref 32, .int (8 : Int32)]) (st' := [.ref 52, .ref 52, .int (1 : Int32), .ref 46]) hX ok_Wall_init rfl ?_
  refine nx_I (as := []) (rest := [.ref 52, .int (1 : Int32), .ref 46]) (c' := 24) (s' := 468) hX ok_Wall_init (nx := 105) rfl l_Wall_37 rfl (Nat.le_of_ble_eq_true rfl) (n_Text_init_52 (d := 1) (by omega)) (by omega) rfl rfl (Nat.le_of_ble_eq_true rfl) ⟨Nat.le_of_ble_eq_true rfl, Nat.le_of_ble_eq_true rfl⟩ ⟨rfl, rfl⟩ ?_
  refine nx_aast (c := 16) (w := 2) (cq := 7) (wq := 0) (j := 1) hX ok_Wall_init (Nat.le_of_ble_eq_true rfl) rfl (Nat.le_of_ble_eq_true rfl) rfl (by decide) (Or.inr ⟨rfl, rfl⟩) rfl (nx := 106) rfl (by decide) (by decide) ?_
  refine nx_go 1 (pc' := 107) (lv' := [.ref 32, .int (8 : Int32)]) (st' := [.ref 32]) hX ok_Wall_init rfl ?_
  refine nx_new (c := 7) (w := 0) (n' := 58) (c' := 25) (s' := 476) hX ok_Wall_init (nx := 110) rfl (by decide) l_Wall_31 rfl (Nat.le_of_ble_eq_true rfl) ⟨Nat.le_of_ble_eq_true rfl, Nat.le_of_ble_eq_true rfl⟩ ⟨rfl, rfl, rfl⟩ ?_
  refine nx_go 1 (pc' := 111) (lv' := [.ref 32, .int (8 : Int32)]) (st' := [.ref 57, .ref 57, .ref 32]) hX ok_Wall_init rfl ?_
  refine nx_I (as := []) (rest := [.ref 57, .ref 32]) (c' := 29) (s' := 626) hX ok_Wall_init (nx := 114) rfl l_Wall_37 rfl (Nat.le_of_ble_eq_true rfl) (n_Text_init_57 (d := 1) (by omega)) (by omega) rfl rfl (Nat.le_of_ble_eq_true rfl) ⟨Nat.le_of_ble_eq_true rfl, Nat.le_of_ble_eq_true rfl⟩ ⟨rfl, rfl⟩ ?_
  refine nx_putp (c := 8) (w := 0) (k := 9) hX ok_Wall_init rfl (Nat.le_of_ble_eq_true rfl) rfl (nx := 117) rfl (Or.inr ⟨rfl, rfl, rfl⟩) rfl ?_
  refine nx_go 2 (pc' := 120) (lv' := [.ref 32, .int (8 : Int32)]) (st' := [.int (20 : Int32), .ref 32]) hX ok_Wall_init rfl ?_
  refine nx_newa (c := 13) (w := 20) (n' := 63) (c' := 30) (s' := 646) hX ok_Wall_init (nx := 122) rfl (Or.inl ⟨rfl, rfl⟩) xw_aI (by decide) rfl (Nat.le_of_ble_eq_true rfl) ⟨Nat.le_of_ble_eq_true rfl, Nat.le_of_ble_eq_true rfl⟩ ⟨rfl, rfl, rfl⟩ ?_
  refine nx_putp (c := 8) (w := 0) (k := 10) hX ok_Wall_init rfl (Nat.le_of_ble_eq_true rfl) rfl (nx := 125) rfl (Or.inr ⟨rfl, rfl, rfl⟩) rfl ?_
  refine nx_go 2 (pc' := 127) (lv' := [.ref 32, .int (8 : Int32)]) (st' := [.int (1 : Int32), .ref 32]) hX ok_Wall_init rfl ?_
  refine nx_puti (c := 8) (w := 0) (k := 12) hX ok_Wall_init rfl (Nat.le_of_ble_eq_true rfl) (Nat.le_of_ble_eq_true rfl) rfl (nx := 130) rfl rfl rfl ?_
  exact nx_vret hX hE ok_Wall_init (nx := 131) rfl rfl ⟨Nat.le_of_ble_eq_true rfl, Nat.le_of_ble_eq_true rfl⟩
def z_Sets_init_63 (Z : HI) : HI := (xrow (xrow (xrow (xrow (xrow (xrow (xrow (xrow Z 64 z0) 65 z0) 66 z0) 67 z0) 68 z0) 69 z0) 70 z0) 71 z0)
def p_Sets_init_63 (P : Nat → Nat → Option Nat) : Nat → Nat → Option Nat := (xup (xprow (xup (xprow (xup (xprow (xup (xprow (xup (xprow (xup (xprow (xup (xprow (xup (xprow P 64 o0) 63 0 (some 64)) 65 o0) 63 1 (some 65)) 66 o0) 63 2 (some 66)) 67 o0) 63 3 (some 67)) 68 o0) 63 4 (some 68)) 69 o0) 63 5 (some 69)) 70 o0) 63 6 (some 70)) 71 o0) 63 7 (some 71))
set_option maxRecDepth 20000 in
set_option maxHeartbeats 4000000 in
theorem n_Sets_init_63 {G : xG} {d L : Nat} {O : HI} {Z : HI} {P : Nat → Nat → Option Nat} (hd : 1 ≤ d) : nM G d m_Sets_init [.ref 63] L O 64 Z P 8 860 72 (z_Sets_init_63 Z) (p_Sets_init_63 P) := by
  refine nM.of (by decide +kernel) (Nat.le_of_ble_eq_true rfl) (lv := [.ref 63]) rfl (fun X hX hE => ?_)
  refine nx_go 1 (pc' := 1) (lv' := [.ref 63]) (st' := [.ref 63]) hX ok_Sets_init rfl ?_
  refine nx_obj hX ok_Sets_init (nx := 4) rfl l_Sets_3 (by omega) (Nat.le_of_ble_eq_true rfl) ?_
  refine nx_go 2 (pc' := 7) (lv' := [.ref 63]) (st' := [.int (8 : Int32), .ref 63]) hX ok_Sets_init rfl ?_
  refine nx_newa (c := 13) (w := 8) (n' := 65) (c' := 1) (s' := 8) hX ok_Sets_init (nx := 9) rfl (Or.inl ⟨rfl, rfl⟩) xw_aI (by decide) rfl (Nat.le_of_ble_eq_true rfl) ⟨Nat.le_of_ble_eq_true rfl, Nat.le_of_ble_eq_true rfl⟩ ⟨rfl, rfl, rfl⟩ ?_
  refine nx_putp (c := 9) (w := 0) (k := 0) hX ok_Sets_init rfl (Nat.le_of_ble_eq_true rfl) rfl (nx := 12) rfl (Or.inr ⟨rfl, rfl, rfl⟩) rfl ?_
  refine nx_go 2 (pc' := 15) (lv' := [.ref 63]) (st' := [.int (8 : Int32), .ref 63]) hX ok_Sets_init rfl ?_
  refine nx_newa (c := 13) (w := 8) (n' := 66) (c' := 2) (s' := 16) hX ok_Sets_init (nx := 17) rfl (Or.inl ⟨rfl, rfl⟩) xw_aI (by decide) rfl (Nat.le_of_ble_eq_true rfl) ⟨Nat.le_of_ble_eq_true rfl, Nat.le_of_ble_eq_true rfl⟩ ⟨rfl, rfl, rfl⟩ ?_
  refine nx_putp (c := 9) (w := 0) (k := 1) hX ok_Sets_init rfl (Nat.le_of_ble_eq_true rfl) rfl (nx := 20) rfl (Or.inr ⟨rfl, rfl, rfl⟩) rfl ?_
  refine nx_go 2 (pc' := 23) (lv' := [.ref 63]) (st' := [.int (8 : Int32), .ref 63]) hX ok_Sets_init rfl ?_
  refine nx_newa (c := 13) (w := 8) (n' := 67) (c' := 3) (s' := 24) hX ok_Sets_init (nx := 25) rfl (Or.inl ⟨rfl, rfl⟩) xw_aI (by decide) rfl (Nat.le_of_ble_eq_true rfl) ⟨Nat.le_of_ble_eq_true rfl, Nat.le_of_ble_eq_true rfl⟩ ⟨rfl, rfl, rfl⟩ ?_
  refine nx_putp (c := 9) (w := 0) (k := 2) hX ok_Sets_init rfl (Nat.le_of_ble_eq_true rfl) rfl (nx := 28) rfl (Or.inr ⟨rfl, rfl, rfl⟩) rfl ?_
  refine nx_go 2 (pc' := 31) (lv' := [.ref 63]) (st' := [.int (64 : Int32), .ref 63]) hX ok_Sets_init rfl ?_
  refine nx_newa (c := 13) (w := 64) (n' := 68) (c' := 4) (s' := 88) hX ok_Sets_init (nx := 33) rfl (Or.inl ⟨rfl, rfl⟩) xw_aI (by decide) rfl (Nat.le_of_ble_eq_true rfl) ⟨Nat.le_of_ble_eq_true rfl, Nat.le_of_ble_eq_true rfl⟩ ⟨rfl, rfl, rfl⟩ ?_
  refine nx_putp (c := 9) (w := 0) (k := 3) hX ok_Sets_init rfl (Nat.le_of_ble_eq_true rfl) rfl (nx := 36) rfl (Or.inr ⟨rfl, rfl, rfl⟩) rfl ?_
  refine nx_go 2 (pc' := 38) (lv' := [.ref 63]) (st' := [.int (4 : Int32), .ref 63]) hX ok_Sets_init rfl ?_
  refine nx_newa (c := 13) (w := 4) (n' := 69) (c' := 5) (s' := 92) hX ok_Sets_init (nx := 40) rfl (Or.inl ⟨rfl, rfl⟩) xw_aI (by decide) rfl (Nat.le_of_ble_eq_true rfl) ⟨Nat.le_of_ble_eq_true rfl, Nat.le_of_ble_eq_true rfl⟩ ⟨rfl, rfl, rfl⟩ ?_
  refine nx_putp (c := 9) (w := 0) (k := 4) hX ok_Sets_init rfl (Nat.le_of_ble_eq_true rfl) rfl (nx := 43) rfl (Or.inr ⟨rfl, rfl, rfl⟩) rfl ?_
  refine nx_go 2 (pc' := 47) (lv' := [.ref 63]) (st' := [.int (256 : Int32), .ref 63]) hX ok_Sets_init rfl ?_
  refine nx_newa (c := 13) (w := 256) (n' := 70) (c' := 6) (s' := 348) hX ok_Sets_init (nx := 49) rfl (Or.inl ⟨rfl, rfl⟩) xw_aI (by decide) rfl (Nat.le_of_ble_eq_true rfl) ⟨Nat.le_of_ble_eq_true rfl, Nat.le_of_ble_eq_true rfl⟩ ⟨rfl, rfl, rfl⟩ ?_
  refine nx_putp (c := 9) (w := 0) (k := 5) hX ok_Sets_init rfl (Nat.le_of_ble_eq_true rfl) rfl (nx := 52) rfl (Or.inr ⟨rfl, rfl, rfl⟩) rfl ?_
  refine nx_go 2 (pc' := 56) (lv' := [.ref 63]) (st' := [.int (256 : Int32), .ref 63]) hX ok_Sets_init rfl ?_
  refine nx_newa (c := 13) (w := 256) (n' := 71) (c' := 7) (s' := 604) hX ok_Sets_init (nx := 58) rfl (Or.inl ⟨rfl, rfl⟩) xw_aI (by decide) rfl (Nat.le_of_ble_eq_true rfl) ⟨Nat.le_of_ble_eq_true rfl, Nat.le_of_ble_eq_true rfl⟩ ⟨rfl, rfl, rfl⟩ ?_
  refine nx_putp (c := 9) (w := 0) (k := 6) hX ok_Sets_init rfl (Nat.le_of_ble_eq_true rfl) rfl (nx := 61) rfl (Or.inr ⟨rfl, rfl, rfl⟩) rfl ?_
  refine nx_go 2 (pc' := 65) (lv' := [.ref 63]) (st' := [.int (256 : Int32), .ref 63]) hX ok_Sets_init rfl ?_
  refine nx_newa (c := 14) (w := 256) (n' := 72) (c' := 8) (s' := 860) hX ok_Sets_init (nx := 67) rfl (Or.inr ⟨rfl, rfl⟩) xw_aZ (by decide) rfl (Nat.le_of_ble_eq_true rfl) ⟨Nat.le_of_ble_eq_true rfl, Nat.le_of_ble_eq_true rfl⟩ ⟨rfl, rfl, rfl⟩ ?_
  refine nx_putp (c := 9) (w := 0) (k := 7) hX ok_Sets_init rfl (Nat.le_of_ble_eq_true rfl) rfl (nx := 70) rfl (Or.inr ⟨rfl, rfl, rfl⟩) rfl ?_
  exact nx_vret hX hE ok_Sets_init (nx := 71) rfl rfl ⟨Nat.le_of_ble_eq_true rfl, Nat.le_of_ble_eq_true rfl⟩
def z_Spans_init_72 (Z : HI) : HI := (xrow (xrow (xrow (xrow (xrow (xrow Z 73 z0) 74 z0) 75 z0) 76 z0) 77 z0) 78 z0)
def p_Spans_init_72 (P : Nat → Nat → Option Nat) : Nat → Nat → Option Nat := (xup (xprow (xup (xprow (xup (xprow (xup (xprow (xup (xprow (xup (xprow P 73 o0) 72 0 (some 73)) 74 o0) 72 1 (some 74)) 75 o0) 72 4 (some 75)) 76 o0) 72 5 (some 76)) 77 o0) 72 6 (some 77)) 78 o0) 72 7 (some 78))
set_option maxRecDepth 20000 in
set_option maxHeartbeats 4000000 in
theorem n_Spans_init_72 {G : xG} {d L : Nat} {O : HI} {Z : HI} {P : Nat → Nat → Option Nat} (hd : 1 ≤ d) : nM G d m_Spans_init [.ref 72] L O 73 Z P 6 48 79 (z_Spans_init_72 Z) (p_Spans_init_72 P) := by
  refine nM.of (by decide +kernel) (Nat.le_of_ble_eq_true rfl) (lv := [.ref 72]) rfl (fun X hX hE => ?_)
  refine nx_go 1 (pc' := 1) (lv' := [.ref 72]) (st' := [.ref 72]) hX ok_Spans_init rfl ?_
  refine nx_obj hX ok_Spans_init (nx := 4) rfl l_Spans_3 (by omega) (Nat.le_of_ble_eq_true rfl) ?_
  refine nx_go 2 (pc' := 7) (lv' := [.ref 72]) (st' := [.int (8 : Int32), .ref 72]) hX ok_Spans_init rfl ?_
  refine nx_newa (c := 13) (w := 8) (n' := 74) (c' := 1) (s' := 8) hX ok_Spans_init (nx := 9) rfl (Or.inl ⟨rfl, rfl⟩) xw_aI (by decide) rfl (Nat.le_of_ble_eq_true rfl) ⟨Nat.le_of_ble_eq_true rfl, Nat.le_of_ble_eq_true rfl⟩ ⟨rfl, rfl, rfl⟩ ?_
  refine nx_putp (c := 10) (w := 0) (k := 0) hX ok_Spans_init rfl (Nat.le_of_ble_eq_true rfl) rfl (nx := 12) rfl (Or.inr ⟨rfl, rfl, rfl⟩) rfl ?_
  refine nx_go 2 (pc' := 15) (lv' := [.ref 72]) (st' := [.int (8 : Int32), .ref 72]) hX ok_Spans_init rfl ?_
  refine nx_newa (c := 13) (w := 8) (n' := 75) (c' := 2) (s' := 16) hX ok_Spans_init (nx := 17) rfl (Or.inl ⟨rfl, rfl⟩) xw_aI (by decide) rfl (Nat.le_of_ble_eq_true rfl) ⟨Nat.le_of_ble_eq_true rfl, Nat.le_of_ble_eq_true rfl⟩ ⟨rfl, rfl, rfl⟩ ?_
  refine nx_putp (c := 10) (w := 0) (k := 1) hX ok_Spans_init rfl (Nat.le_of_ble_eq_true rfl) rfl (nx := 20) rfl (Or.inr ⟨rfl, rfl, rfl⟩) rfl ?_
  refine nx_go 2 (pc' := 23) (lv' := [.ref 72]) (st' := [.int (8 : Int32), .ref 72]) hX ok_Spans_init rfl ?_
  refine nx_newa (c := 13) (w := 8) (n' := 76) (c' := 3) (s' := 24) hX ok_Spans_init (nx := 25) rfl (Or.inl ⟨rfl, rfl⟩) xw_aI (by decide) rfl (Nat.le_of_ble_eq_true rfl) ⟨Nat.le_of_ble_eq_true rfl, Nat.le_of_ble_eq_true rfl⟩ ⟨rfl, rfl, rfl⟩ ?_
  refine nx_putp (c := 10) (w := 0) (k := 4) hX ok_Spans_init rfl (Nat.le_of_ble_eq_true rfl) rfl (nx := 28) rfl (Or.inr ⟨rfl, rfl, rfl⟩) rfl ?_
  refine nx_go 2 (pc' := 31) (lv' := [.ref 72]) (st' := [.int (8 : Int32), .ref 72]) hX ok_Spans_init rfl ?_
  refine nx_newa (c := 13) (w := 8) (n' := 77) (c' := 4) (s' := 32) hX ok_Spans_init (nx := 33) rfl (Or.inl ⟨rfl, rfl⟩) xw_aI (by decide) rfl (Nat.le_of_ble_eq_true rfl) ⟨Nat.le_of_ble_eq_true rfl, Nat.le_of_ble_eq_true rfl⟩ ⟨rfl, rfl, rfl⟩ ?_
  refine nx_putp (c := 10) (w := 0) (k := 5) hX ok_Spans_init rfl (Nat.le_of_ble_eq_true rfl) rfl (nx := 36) rfl (Or.inr ⟨rfl, rfl, rfl⟩) rfl ?_
  refine nx_go 2 (pc' := 39) (lv' := [.ref 72]) (st' := [.int (8 : Int32), .ref 72]) hX ok_Spans_init rfl ?_
  refine nx_newa (c := 13) (w := 8) (n' := 78) (c' := 5) (s' := 40) hX ok_Spans_init (nx := 41) rfl (Or.inl ⟨rfl, rfl⟩) xw_aI (by decide) rfl (Nat.le_of_ble_eq_true rfl) ⟨Nat.le_of_ble_eq_true rfl, Nat.le_of_ble_eq_true rfl⟩ ⟨rfl, rfl, rfl⟩ ?_
  refine nx_putp (c := 10) (w := 0) (k := 6) hX ok_Spans_init rfl (Nat.le_of_ble_eq_true rfl) rfl (nx := 44) rfl (Or.inr ⟨rfl, rfl, rfl⟩) rfl ?_
  refine nx_go 2 (pc' := 47) (lv' := [.ref 72]) (st' := [.int (8 : Int32), .ref 72]) hX ok_Spans_init rfl ?_
  refine nx_newa (c := 13) (w := 8) (n' := 79) (c' := 6) (s' := 48) hX ok_Spans_init (nx := 49) rfl (Or.inl ⟨rfl, rfl⟩) xw_aI (by decide) rfl (Nat.le_of_ble_eq_true rfl) ⟨Nat.le_of_ble_eq_true rfl, Nat.le_of_ble_eq_true rfl⟩ ⟨rfl, rfl, rfl⟩ ?_
  refine nx_putp (c := 10) (w := 0) (k := 7) hX ok_Spans_init rfl (Nat.le_of_ble_eq_true rfl) rfl (nx := 52) rfl (Or.inr ⟨rfl, rfl, rfl⟩) rfl ?_
  exact nx_vret hX hE ok_Spans_init (nx := 53) rfl rfl ⟨Nat.le_of_ble_eq_true rfl, Nat.le_of_ble_eq_true rfl⟩
def z_H_init_0 (Z : HI) : HI := (xu (xrow (xrow (xrow (xrow (mZ 79 (z_Spans_init_72 (xrow (z_Sets_init_63 (xrow (z_Wall_init_32 (xrow (z_Wall_init_1 (xrow Z 1 z0)) 32 z0)) 63 z0)) 72 z0))) 84 z0) 85 z0) 86 z0) 87 z0) 0 9 0)
def p_H_init_0 (P : Nat → Nat → Option Nat) : Nat → Nat → Option Nat := (xup (xprow (xup (xprow (xup (xprow (xup (xprow (xup (mP 79 (xup (p_Spans_init_72 (xprow (xup (p_Sets_init_63 (xprow (xup (p_Wall_init_32 (xprow (xup (p_Wall_init_1 (xprow P 1 o0)) 0 0 (some 1)) 32 o0)) 0 1 (some 32)) 63 o0)) 0 2 (some 63)) 72 o0)) 0 3 (some 72))) 0 4 (some 79)) 84 o0) 0 5 (some 84)) 85 o0) 0 6 (some 85)) 86 o0) 0 7 (some 86)) 87 o0) 0 8 (some 87))
set_option maxRecDepth 20000 in
set_option maxHeartbeats 4000000 in
theorem n_H_init_0 {G : xG} {d L : Nat} {O : HI} {Z : HI} {P : Nat → Nat → Option Nat} (hd : 3 ≤ d) : nM G d m_H_init [.ref 0] L O 1 Z P 87 2461 88 (z_H_init_0 Z) (p_H_init_0 P) := by
  refine nM.of (by decide +kernel) (Nat.le_of_ble_eq_true rfl) (lv := [.ref 0]) rfl (fun X hX hE => ?_)
  refine nx_go 1 (pc' := 1) (lv' := [.ref 0]) (st' := [.ref 0]) hX ok_H_init rfl ?_
  refine nx_obj hX ok_H_init (nx := 4) rfl l_H_1 (by omega) (Nat.le_of_ble_eq_true rfl) ?_
  refine nx_go 1 (pc' := 5) (lv' := [.ref 0]) (st' := [.ref 0]) hX ok_H_init rfl ?_
  refine nx_new (c := 8) (w := 0) (n' := 2) (c' := 1) (s' := 13) hX ok_H_init (nx := 8) rfl (by decide) l_H_7 rfl (Nat.le_of_ble_eq_true rfl) ⟨Nat.le_of_ble_eq_true rfl, Nat.le_of_ble_eq_true rfl⟩ ⟨rfl, rfl, rfl⟩ ?_
  refine nx_go 1 (pc' := 9) (lv' := [.ref 0]) (st' := [.ref 1, .ref 1, .ref 0]) hX ok_H_init rfl ?_
  refine nx_I (as := []) (rest := [.ref 1, .ref 0]) (c' := 31) (s' := 659) hX ok_H_init (nx := 12) rfl l_H_9 rfl (Nat.le_of_ble_eq_true rfl) (n_Wall_init_1 (d := 2) (by omega)) (by omega) rfl rfl (Nat.le_of_ble_eq_true rfl) ⟨Nat.le_of_ble_eq_true rfl, Nat.le_of_ble_eq_true rfl⟩ ⟨rfl, rfl⟩ ?_
  refine nx_putp (c := 11) (w := 0) (k := 0) hX ok_H_init rfl (Nat.le_of_ble_eq_true rfl) rfl (nx := 15) rfl (Or.inr ⟨rfl, rfl, rfl⟩) rfl ?_
  refine nx_go 1 (pc' := 16) (lv' := [.ref 0]) (st' := [.ref 0]) hX ok_H_init rfl ?_
  refine nx_new (c := 8) (w := 0) (n' := 33) (c' := 32) (s' := 672) hX ok_H_init (nx := 19) rfl (by decide) l_H_7 rfl (Nat.le_of_ble_eq_true rfl) ⟨Nat.le_of_ble_eq_true rfl, Nat.le_of_ble_eq_true rfl⟩ ⟨rfl, rfl, rfl⟩ ?_
  refine nx_go 1 (pc' := 20) (lv' := [.ref 0]) (st' := [.ref 32, .ref 32, .ref 0]) hX ok_H_init rfl ?_
  refine nx_I (as := []) (rest := [.ref 32, .ref 0]) (c' := 62) (s' := 1318) hX ok_H_init (nx := 23) rfl l_H_9 rfl (Nat.le_of_ble_eq_true rfl) (n_Wall_init_32 (d := 2) (by omega)) (by omega) rfl rfl (Nat.le_of_ble_eq_true rfl) ⟨Nat.le_of_ble_eq_true rfl, Nat.le_of_ble_eq_true rfl⟩ ⟨rfl, rfl⟩ ?_
  refine nx_putp (c := 11) (w := 0) (k := 1) hX ok_H_init rfl (Nat.le_of_ble_eq_true rfl) rfl (nx := 26) rfl (Or.inr ⟨rfl, rfl, rfl⟩) rfl ?_
  refine nx_go 1 (pc' := 27) (lv' := [.ref 0]) (st' := [.ref 0]) hX ok_H_init rfl ?_
  refine nx_new (c := 9) (w := 0) (n' := 64) (c' := 63) (s' := 1326) hX ok_H_init (nx := 30) rfl (by decide) l_H_19 rfl (Nat.le_of_ble_eq_true rfl) ⟨Nat.le_of_ble_eq_true rfl, Nat.le_of_ble_eq_true rfl⟩ ⟨rfl, rfl, rfl⟩ ?_
  refine nx_go 1 (pc' := 31) (lv' := [.ref 0]) (st' := [.ref 63, .ref 63, .ref 0]) hX ok_H_init rfl ?_
  refine nx_I (as := []) (rest := [.ref 63, .ref 0]) (c' := 71) (s' := 2186) hX ok_H_init (nx := 34) rfl l_H_21 rfl (Nat.le_of_ble_eq_true rfl) (n_Sets_init_63 (d := 1) (by omega)) (by omega) rfl rfl (Nat.le_of_ble_eq_true rfl) ⟨Nat.le_of_ble_eq_true rfl, Nat.le_of_ble_eq_true rfl⟩ ⟨rfl, rfl⟩ ?_
  refine nx_putp (c := 11) (w := 0) (k := 2) hX ok_H_init rfl (Nat.le_of_ble_eq_true rfl) rfl (nx := 37) rfl (Or.inr ⟨rfl, rfl, rfl⟩) rfl ?_
  refine nx_go 1 (pc' := 38) (lv' := [.ref 0]) (st' := [.ref 0]) hX ok_H_init rfl ?_
  refine nx_new (c := 10) (w := 0) (n' := 73) (c' := 72) (s' := 2194) hX ok_H_init (nx := 41) rfl (by decide) l_H_26 rfl (Nat.le_of_ble_eq_true rfl) ⟨Nat.le_of_ble_eq_true rfl, Nat.le_of_ble_eq_true rfl⟩ ⟨rfl, rfl, rfl⟩ ?_
  refine nx_go 1 (pc' := 42) (lv' := [.ref 0]) (st' := [.ref 72, .ref 72, .ref 0]) hX ok_H_init rfl ?_
  refine nx_I (as := []) (rest := [.ref 72, .ref 0]) (c' := 78) (s' := 2242) hX ok_H_init (nx := 45) rfl l_H_28 rfl (Nat.le_of_ble_eq_true rfl) (n_Spans_init_72 (d := 1) (by omega)) (by omega) rfl rfl (Nat.le_of_ble_eq_true rfl) ⟨Nat.le_of_ble_eq_true rfl, Nat.le_of_ble_eq_true rfl⟩ ⟨rfl, rfl⟩ ?_
  refine nx_putp (c := 11) (w := 0) (k := 3) hX ok_H_init rfl (Nat.le_of_ble_eq_true rfl) rfl (nx := 48) rfl (Or.inr ⟨rfl, rfl, rfl⟩) rfl ?_
  refine nx_go 3 (pc' := 52) (lv' := [.ref 0]) (st' := [.int (40 : Int32), .int (4 : Int32), .ref 0]) hX ok_H_init rfl ?_
  refine nx_multi (n' := 84) (c' := 83) (s' := 2406) hX ok_H_init rfl (nx := 56) rfl ⟨rfl, mg_k⟩ (Nat.le_of_ble_eq_true rfl) ⟨Nat.le_of_ble_eq_true rfl, Nat.le_of_ble_eq_true rfl⟩ ⟨rfl, rfl, rfl⟩ ?_
  refine nx_putp (c := 11) (w := 0) (k := 4) hX ok_H_init rfl (Nat.le_of_ble_eq_true rfl) rfl (nx := 59) rfl (Or.inr ⟨rfl, rfl, rfl⟩) rfl ?_
  refine nx_go 2 (pc' := 61) (lv' := [.ref 0]) (st' := [.int (4 : Int32), .ref 0]) hX ok_H_init rfl ?_
  refine nx_newa (c := 13) (w := 4) (n' := 85) (c' := 84) (s' := 2410) hX ok_H_init (nx := 63) rfl (Or.inl ⟨rfl, rfl⟩) xw_aI (by decide) rfl (Nat.le_of_ble_eq_true rfl) ⟨Nat.le_of_ble_eq_true rfl, Nat.le_of_ble_eq_true rfl⟩ ⟨rfl, rfl, rfl⟩ ?_
  refine nx_putp (c := 11) (w := 0) (k := 5) hX ok_H_init rfl (Nat.le_of_ble_eq_true rfl) rfl (nx := 66) rfl (Or.inr ⟨rfl, rfl, rfl⟩) rfl ?_
  refine nx_go 2 (pc' := 68) (lv' := [.ref 0]) (st' := [.int (4 : Int32), .ref 0]) hX ok_H_init rfl ?_
  refine nx_newa (c := 13) (w := 4) (n' := 86) (c' := 85) (s' := 2414) hX ok_H_init (nx := 70) rfl (Or.inl ⟨rfl, rfl⟩) xw_aI (by decide) rfl (Nat.le_of_ble_eq_true rfl) ⟨Nat.le_of_ble_eq_true rfl, Nat.le_of_ble_eq_true rfl⟩ ⟨rfl, rfl, rfl⟩ ?_
  refine nx_putp (c := 11) (w := 0) (k := 6) hX ok_H_init rfl (Nat.le_of_ble_eq_true rfl) rfl (nx := 73) rfl (Or.inr ⟨rfl, rfl, rfl⟩) rfl ?_
  refine nx_go 2 (pc' := 76) (lv' := [.ref 0]) (st' := [.int (41 : Int32), .ref 0]) hX ok_H_init rfl ?_
  refine nx_newa (c := 13) (w := 41) (n' := 87) (c' := 86) (s' := 2455) hX ok_H_init (nx := 78) rfl (Or.inl ⟨rfl, rfl⟩) xw_aI (by decide) rfl (Nat.le_of_ble_eq_true rfl) ⟨Nat.le_of_ble_eq_true rfl, Nat.le_of_ble_eq_true rfl⟩ ⟨rfl, rfl, rfl⟩ ?_
  refine nx_putp (c := 11) (w := 0) (k := 7) hX ok_H_init rfl (Nat.le_of_ble_eq_true rfl) rfl (nx := 81) rfl (Or.inr ⟨rfl, rfl, rfl⟩) rfl ?_
  refine nx_go 2 (pc' := 84) (lv' := [.ref 0]) (st' := [.int (6 : Int32), .ref 0]) hX ok_H_init rfl ?_
  refine nx_newa (c := 13) (w := 6) (n' := 88) (c' := 87) (s' := 2461) hX ok_H_init (nx := 86) rfl (Or.inl ⟨rfl, rfl⟩) xw_aI (by decide) rfl (Nat.le_of_ble_eq_true rfl) ⟨Nat.le_of_ble_eq_true rfl, Nat.le_of_ble_eq_true rfl⟩ ⟨rfl, rfl, rfl⟩ ?_
  refine nx_putp (c := 11) (w := 0) (k := 8) hX ok_H_init rfl (Nat.le_of_ble_eq_true rfl) rfl (nx := 89) rfl (Or.inr ⟨rfl, rfl, rfl⟩) rfl ?_
  refine nx_go 2 (pc' := 91) (lv' := [.ref 0]) (st' := [.int (0 : Int32), .ref 0]) hX ok_H_init rfl ?_
  refine nx_puti (c := 11) (w := 0) (k := 9) hX ok_H_init rfl (Nat.le_of_ble_eq_true rfl) (Nat.le_of_ble_eq_true rfl) rfl (nx := 94) rfl rfl rfl ?_
  exact nx_vret hX hE ok_H_init (nx := 95) rfl rfl ⟨Nat.le_of_ble_eq_true rfl, Nat.le_of_ble_eq_true rfl⟩
def z_Model_init_88 (Z : HI) : HI := (xu (xrow (xrow (xrow (xrow (xrow (xrow (xrow (xrow (xrow (xrow (xrow (xrow (xrow (xrow (xrow (xrow (xrow (xrow Z 89 z0) 90 z0) 91 z0) 92 z0) 93 z0) 94 z0) 95 z0) 96 z0) 97 z0) 98 z0) 99 z0) 100 z0) 101 z0) 102 z0) 103 z0) 104 z0) 105 z0) 106 z0) 89 2 1)
def p_Model_init_88 (P : Nat → Nat → Option Nat) : Nat → Nat → Option Nat := (xup (xprow (xup (xprow (xup (xprow (xup (xprow (xup (xprow (xup (xprow (xup (xprow (xup (xprow (xup (xprow (xup (xprow (xup (xprow (xup (xprow (xup (xprow (xup (xprow (xup (xprow (xup (xprow (xup (xprow (xup (xprow P 89 o0) 88 0 (some 89)) 90 o0) 88 1 (some 90)) 91 o0) 88 3 (some 91)) 92 o0) 88 10 (some 92)) 93 o0) 88 11 (some 93)) 94 o0) 88 12 (some 94)) 95 o0) 88 13 (some 95)) 96 o0) 88 14 (some 96)) 97 o0) 88 15 (some 97)) 98 o0) 88 16 (some 98)) 99 o0) 88 17 (some 99)) 100 o0) 88 18 (some 100)) 101 o0) 88 19 (some 101)) 102 o0) 88 20 (some 102)) 103 o0) 88 23 (some 103)) 104 o0) 88 24 (some 104)) 105 o0) 88 25 (some 105)) 106 o0) 88 26 (some 106))
set_option maxRecDepth 20000 in
set_option maxHeartbeats 4000000 in
theorem n_Model_init_88 {G : xG} {d L : Nat} {O : HI} {Z : HI} {P : Nat → Nat → Option Nat} (hd : 1 ≤ d) : nM G d m_Model_init [.ref 88] L O 89 Z P 18 2110 107 (z_Model_init_88 Z) (p_Model_init_88 P) := by
  refine nM.of (by decide +kernel) (Nat.le_of_ble_eq_true rfl) (lv := [.ref 88]) rfl (fun X hX hE => ?_)
  refine nx_go 1 (pc' := 1) (lv' := [.ref 88]) (st' := [.ref 88]) hX ok_Model_init rfl ?_
  refine nx_obj hX ok_Model_init (nx := 4) rfl l_Model_1 (by omega) (Nat.le_of_ble_eq_true rfl) ?_
  refine nx_go 2 (pc' := 8) (lv' := [.ref 88]) (st' := [.int (270 : Int32), .ref 88]) hX ok_Model_init rfl ?_
  refine nx_newa (c := 13) (w := 270) (n' := 90) (c' := 1) (s' := 270) hX ok_Model_init (nx := 10) rfl (Or.inl ⟨rfl, rfl⟩) xw_aI (by decide) rfl (Nat.le_of_ble_eq_true rfl) ⟨Nat.le_of_ble_eq_true rfl, Nat.le_of_ble_eq_true rfl⟩ ⟨rfl, rfl, rfl⟩ ?_
  refine nx_putp (c := 12) (w := 0) (k := 0) hX ok_Model_init rfl (Nat.le_of_ble_eq_true rfl) rfl (nx := 13) rfl (Or.inr ⟨rfl, rfl, rfl⟩) rfl ?_
  refine nx_go 2 (pc' := 17) (lv' := [.ref 88]) (st' := [.int (270 : Int32), .ref 88]) hX ok_Model_init rfl ?_
  refine nx_newa (c := 13) (w := 270) (n' := 91) (c' := 2) (s' := 540) hX ok_Model_init (nx := 19) rfl (Or.inl ⟨rfl, rfl⟩) xw_aI (by decide) rfl (Nat.le_of_ble_eq_true rfl) ⟨Nat.le_of_ble_eq_true rfl, Nat.le_of_ble_eq_true rfl⟩ ⟨rfl, rfl, rfl⟩ ?_
  refine nx_putp (c := 12) (w := 0) (k := 1) hX ok_Model_init rfl (Nat.le_of_ble_eq_true rfl) rfl (nx := 22) rfl (Or.inr ⟨rfl, rfl, rfl⟩) rfl ?_
  refine nx_go 2 (pc' := 25) (lv' := [.ref 88]) (st' := [.int (6 : Int32), .ref 88]) hX ok_Model_init rfl ?_
  refine nx_newa (c := 13) (w := 6) (n' := 92) (c' := 3) (s' := 546) hX ok_Model_init (nx := 27) rfl (Or.inl ⟨rfl, rfl⟩) xw_aI (by decide) rfl (Nat.le_of_ble_eq_true rfl) ⟨Nat.le_of_ble_eq_true rfl, Nat.le_of_ble_eq_true rfl⟩ ⟨rfl, rfl, rfl⟩ ?_
  refine nx_putp (c := 12) (w := 0) (k := 3) hX ok_Model_init rfl (Nat.le_of_ble_eq_true rfl) rfl (nx := 30) rfl (Or.inr ⟨rfl, rfl, rfl⟩) rfl ?_
  refine nx_go 2 (pc' := 32) (lv' := [.ref 88]) (st' := [.int (4 : Int32), .ref 88]) hX ok_Model_init rfl ?_
  refine nx_newa (c := 13) (w := 4) (n' := 93) (c' := 4) (s' := 550) hX ok_Model_init (nx := 34) rfl (Or.inl ⟨rfl, rfl⟩) xw_aI (by decide) rfl (Nat.le_of_ble_eq_true rfl) ⟨Nat.le_of_ble_eq_true rfl, Nat.le_of_ble_eq_true rfl⟩ ⟨rfl, rfl, rfl⟩ ?_
  refine nx_putp (c := 12) (w := 0) (k := 10) hX ok_Model_init rfl (Nat.le_of_ble_eq_true rfl) rfl (nx := 37) rfl (Or.inr ⟨rfl, rfl, rfl⟩) rfl ?_
  refine nx_go 2 (pc' := 40) (lv' := [.ref 88]) (st' := [.int (8 : Int32), .ref 88]) hX ok_Model_init rfl ?_
  refine nx_newa (c := 13) (w := 8) (n' := 94) (c' := 5) (s' := 558) hX ok_Model_init (nx := 42) rfl (Or.inl ⟨rfl, rfl⟩) xw_aI (by decide) rfl (Nat.le_of_ble_eq_true rfl) ⟨Nat.le_of_ble_eq_true rfl, Nat.le_of_ble_eq_true rfl⟩ ⟨rfl, rfl, rfl⟩ ?_
  refine nx_putp (c := 12) (w := 0) (k := 11) hX ok_Model_init rfl (Nat.le_of_ble_eq_true rfl) rfl (nx := 45) rfl (Or.inr ⟨rfl, rfl, rfl⟩) rfl ?_
  refine nx_go 2 (pc' := 49) (lv' := [.ref 88]) (st' := [.int (256 : Int32), .ref 88]) hX ok_Model_init rfl ?_
  refine nx_newa (c := 13) (w := 256) (n' := 95) (c' := 6) (s' := 814) hX ok_Model_init (nx := 51) rfl (Or.inl ⟨rfl, rfl⟩) xw_aI (by decide) rfl (Nat.le_of_ble_eq_true rfl) ⟨Nat.le_of_ble_eq_true rfl, Nat.le_of_ble_eq_true rfl⟩ ⟨rfl, rfl, rfl⟩ ?_
  refine nx_putp (c := 12) (w := 0) (k := 12) hX ok_Model_init rfl (Nat.le_of_ble_eq_true rfl) rfl (nx := 54) rfl (Or.inr ⟨rfl, rfl, rfl⟩) rfl ?_
  refine nx_go 2 (pc' := 58) (lv' := [.ref 88]) (st' := [.int (256 : Int32), .ref 88]) hX ok_Model_init rfl ?_
  refine nx_newa (c := 13) (w := 256) (n' := 96) (c' := 7) (s' := 1070) hX ok_Model_init (nx := 60) rfl (Or.inl ⟨rfl, rfl⟩) xw_aI (by decide) rfl (Nat.le_of_ble_eq_true rfl) ⟨Nat.le_of_ble_eq_true rfl, Nat.le_of_ble_eq_true rfl⟩ ⟨rfl, rfl, rfl⟩ ?_
  refine nx_putp (c := 12) (w := 0) (k := 13) hX ok_Model_init rfl (Nat.le_of_ble_eq_true rfl) rfl (nx := 63) rfl (Or.inr ⟨rfl, rfl, rfl⟩) rfl ?_
  refine nx_go 2 (pc' := 67) (lv' := [.ref 88]) (st' := [.int (256 : Int32), .ref 88]) hX ok_Model_init rfl ?_
  refine nx_newa (c := 13) (w := 256) (n' := 97) (c' := 8) (s' := 1326) hX ok_Model_init (nx := 69) rfl (Or.inl ⟨rfl, rfl⟩) xw_aI (by decide) rfl (Nat.le_of_ble_eq_true rfl) ⟨Nat.le_of_ble_eq_true rfl, Nat.le_of_ble_eq_true rfl⟩ ⟨rfl, rfl, rfl⟩ ?_
  refine nx_putp (c := 12) (w := 0) (k := 14) hX ok_Model_init rfl (Nat.le_of_ble_eq_true rfl) rfl (nx := 72) rfl (Or.inr ⟨rfl, rfl, rfl⟩) rfl ?_
  refine nx_go 2 (pc' := 75) (lv' := [.ref 88]) (st' := [.int (8 : Int32), .ref 88]) hX ok_Model_init rfl ?_
  refine nx_newa (c := 13) (w := 8) (n' := 98) (c' := 9) (s' := 1334) hX ok_Model_init (nx := 77) rfl (Or.inl ⟨rfl, rfl⟩) xw_aI (by decide) rfl (Nat.le_of_ble_eq_true rfl) ⟨Nat.le_of_ble_eq_true rfl, Nat.le_of_ble_eq_true rfl⟩ ⟨rfl, rfl, rfl⟩ ?_
  refine nx_putp (c := 12) (w := 0) (k := 15) hX ok_Model_init rfl (Nat.le_of_ble_eq_true rfl) rfl (nx := 80) rfl (Or.inr ⟨rfl, rfl, rfl⟩) rfl ?_
  refine nx_go 2 (pc' := 83) (lv' := [.ref 88]) (st' := [.int (8 : Int32), .ref 88]) hX ok_Model_init rfl ?_
  refine nx_newa (c := 13) (w := 8) (n' := 99) (c' := 10) (s' := 1342) hX ok_Model_init (nx := 85) rfl (Or.inl ⟨rfl, rfl⟩) xw_aI (by decide) rfl (Nat.le_of_ble_eq_true rfl) ⟨Nat.le_of_ble_eq_true rfl, Nat.le_of_ble_eq_true rfl⟩ ⟨rfl, rfl, rfl⟩ ?_
  refine nx_putp (c := 12) (w := 0) (k := 16) hX ok_Model_init rfl (Nat.le_of_ble_eq_true rfl) rfl (nx := 88) rfl (Or.inr ⟨rfl, rfl, rfl⟩) rfl ?_
  refine nx_go 2 (pc' := 91) (lv' := [.ref 88]) (st' := [.int (8 : Int32), .ref 88]) hX ok_Model_init rfl ?_
  refine nx_newa (c := 13) (w := 8) (n' := 100) (c' := 11) (s' := 1350) hX ok_Model_init (nx := 93) rfl (Or.inl ⟨rfl, rfl⟩) xw_aI (by decide) rfl (Nat.le_of_ble_eq_true rfl) ⟨Nat.le_of_ble_eq_true rfl, Nat.le_of_ble_eq_true rfl⟩ ⟨rfl, rfl, rfl⟩ ?_
  refine nx_putp (c := 12) (w := 0) (k := 17) hX ok_Model_init rfl (Nat.le_of_ble_eq_true rfl) rfl (nx := 96) rfl (Or.inr ⟨rfl, rfl, rfl⟩) rfl ?_
  refine nx_go 2 (pc' := 100) (lv' := [.ref 88]) (st' := [.int (256 : Int32), .ref 88]) hX ok_Model_init rfl ?_
  refine nx_newa (c := 14) (w := 256) (n' := 101) (c' := 12) (s' := 1606) hX ok_Model_init (nx := 102) rfl (Or.inr ⟨rfl, rfl⟩) xw_aZ (by decide) rfl (Nat.le_of_ble_eq_true rfl) ⟨Nat.le_of_ble_eq_true rfl, Nat.le_of_ble_eq_true rfl⟩ ⟨rfl, rfl, rfl⟩ ?_
  refine nx_putp (c := 12) (w := 0) (k := 18) hX ok_Model_init rfl (Nat.le_of_ble_eq_true rfl) rfl (nx := 105) rfl (Or.inr ⟨rfl, rfl, rfl⟩) rfl ?_
  refine nx_go 2 (pc' := 109) (lv' := [.ref 88]) (st' := [.int (256 : Int32), .ref 88]) hX ok_Model_init rfl ?_
  refine nx_newa (c := 13) (w := 256) (n' := 102) (c' := 13) (s' := 1862) hX ok_Model_init (nx := 111) rfl (Or.inl ⟨rfl, rfl⟩) xw_aI (by decide) rfl (Nat.le_of_ble_eq_true rfl) ⟨Nat.le_of_ble_eq_true rfl, Nat.le_of_ble_eq_true rfl⟩ ⟨rfl, rfl, rfl⟩ ?_
  refine nx_putp (c := 12) (w := 0) (k := 19) hX ok_Model_init rfl (Nat.le_of_ble_eq_true rfl) rfl (nx := 114) rfl (Or.inr ⟨rfl, rfl, rfl⟩) rfl ?_
  refine nx_go 2 (pc' := 117) (lv' := [.ref 88]) (st' := [.int (40 : Int32), .ref 88]) hX ok_Model_init rfl ?_
  refine nx_newa (c := 13) (w := 40) (n' := 103) (c' := 14) (s' := 1902) hX ok_Model_init (nx := 119) rfl (Or.inl ⟨rfl, rfl⟩) xw_aI (by decide) rfl (Nat.le_of_ble_eq_true rfl) ⟨Nat.le_of_ble_eq_true rfl, Nat.le_of_ble_eq_true rfl⟩ ⟨rfl, rfl, rfl⟩ ?_
  refine nx_putp (c := 12) (w := 0) (k := 20) hX ok_Model_init rfl (Nat.le_of_ble_eq_true rfl) rfl (nx := 122) rfl (Or.inr ⟨rfl, rfl, rfl⟩) rfl ?_
  refine nx_go 2 (pc' := 124) (lv' := [.ref 88]) (st' := [.int (4 : Int32), .ref 88]) hX ok_Model_init rfl ?_
  refine nx_newa (c := 13) (w := 4) (n' := 104) (c' := 15) (s' := 1906) hX ok_Model_init (nx := 126) rfl (Or.inl ⟨rfl, rfl⟩) xw_aI (by decide) rfl (Nat.le_of_ble_eq_true rfl) ⟨Nat.le_of_ble_eq_true rfl, Nat.le_of_ble_eq_true rfl⟩ ⟨rfl, rfl, rfl⟩ ?_
  refine nx_putp (c := 12) (w := 0) (k := 23) hX ok_Model_init rfl (Nat.le_of_ble_eq_true rfl) rfl (nx := 129) rfl (Or.inr ⟨rfl, rfl, rfl⟩) rfl ?_
  refine nx_go 2 (pc' := 131) (lv' := [.ref 88]) (st' := [.int (4 : Int32), .ref 88]) hX ok_Model_init rfl ?_
  refine nx_newa (c := 13) (w := 4) (n' := 105) (c' := 16) (s' := 1910) hX ok_Model_init (nx := 133) rfl (Or.inl ⟨rfl, rfl⟩) xw_aI (by decide) rfl (Nat.le_of_ble_eq_true rfl) ⟨Nat.le_of_ble_eq_true rfl, Nat.le_of_ble_eq_true rfl⟩ ⟨rfl, rfl, rfl⟩ ?_
  refine nx_putp (c := 12) (w := 0) (k := 24) hX ok_Model_init rfl (Nat.le_of_ble_eq_true rfl) rfl (nx := 136) rfl (Or.inr ⟨rfl, rfl, rfl⟩) rfl ?_
  refine nx_go 2 (pc' := 140) (lv' := [.ref 88]) (st' := [.int (160 : Int32), .ref 88]) hX ok_Model_init rfl ?_
  refine nx_newa (c := 13) (w := 160) (n' := 106) (c' := 17) (s' := 2070) hX ok_Model_init (nx := 142) rfl (Or.inl ⟨rfl, rfl⟩) xw_aI (by decide) rfl (Nat.le_of_ble_eq_true rfl) ⟨Nat.le_of_ble_eq_true rfl, Nat.le_of_ble_eq_true rfl⟩ ⟨rfl, rfl, rfl⟩ ?_
  refine nx_putp (c := 12) (w := 0) (k := 25) hX ok_Model_init rfl (Nat.le_of_ble_eq_true rfl) rfl (nx := 145) rfl (Or.inr ⟨rfl, rfl, rfl⟩) rfl ?_
  refine nx_go 2 (pc' := 148) (lv' := [.ref 88]) (st' := [.int (40 : Int32), .ref 88]) hX ok_Model_init rfl ?_
  refine nx_newa (c := 13) (w := 40) (n' := 107) (c' := 18) (s' := 2110) hX ok_Model_init (nx := 150) rfl (Or.inl ⟨rfl, rfl⟩) xw_aI (by decide) rfl (Nat.le_of_ble_eq_true rfl) ⟨Nat.le_of_ble_eq_true rfl, Nat.le_of_ble_eq_true rfl⟩ ⟨rfl, rfl, rfl⟩ ?_
  refine nx_putp (c := 12) (w := 0) (k := 26) hX ok_Model_init rfl (Nat.le_of_ble_eq_true rfl) rfl (nx := 153) rfl (Or.inr ⟨rfl, rfl, rfl⟩) rfl ?_
  refine nx_go 1 (pc' := 154) (lv' := [.ref 88]) (st' := [.ref 88]) hX ok_Model_init rfl ?_
  refine nx_getp (c := 12) (w := 0) (k := 0) (q := 89) hX ok_Model_init rfl (Nat.le_of_ble_eq_true rfl) rfl (nx := 157) rfl rfl rfl ?_
  refine nx_go 2 (pc' := 159) (lv' := [.ref 88]) (st' := [.int (1 : Int32), .int (2 : Int32), .ref 89]) hX ok_Model_init rfl ?_
  refine nx_iast (w := 270) (j := 2) hX ok_Model_init (Nat.le_of_ble_eq_true rfl) (Nat.le_of_ble_eq_true rfl) rfl (nx := 160) rfl (by decide) (by decide) ?_
  exact nx_vret hX hE ok_Model_init (nx := 161) rfl rfl ⟨Nat.le_of_ble_eq_true rfl, Nat.le_of_ble_eq_true rfl⟩
end
