-- ===== PART A: goes FIRST, ahead of the names: the tables' words, and 'selects' of the private methods out of them =====
/-- a private method of a class that the tables say can be made, by its rows of tables_1 -/
def lw_okq (q : MethodName × Nat) : Prop := (q.1.cls ≠ "java/lang/invoke/MethodHandle" ∧ q.1.cls ≠ "java/lang/invoke/VarHandle") ∧ Cond.instantiable q.1.cls q.2 ∈ tables_1 ∧ Cond.privateMethod q.1 ∈ tables_1 ∧ Cond.instanceMethod q.1 ∈ tables_1
theorem lw_p0 : lw_okq (⟨"HandOverHorse", "error", "(I)I"⟩, 10) := ⟨⟨by decide +kernel, by decide +kernel⟩, List.mem_of_getElem? (i := 23) (by decide +kernel), List.mem_of_getElem? (i := 289) (by decide +kernel), List.mem_of_getElem? (i := 290) (by decide +kernel)⟩
theorem lw_p1 : lw_okq (⟨"HandOverHorse$Wall", "datesOf", "(I)I"⟩, 13) := ⟨⟨by decide +kernel, by decide +kernel⟩, List.mem_of_getElem? (i := 31) (by decide +kernel), List.mem_of_getElem? (i := 462) (by decide +kernel), List.mem_of_getElem? (i := 463) (by decide +kernel)⟩
theorem lw_p2 : lw_okq (⟨"HandOverHorse$Text", "readLevel", "(II)Z"⟩, 8) := ⟨⟨by decide +kernel, by decide +kernel⟩, List.mem_of_getElem? (i := 88) (by decide +kernel), List.mem_of_getElem? (i := 666) (by decide +kernel), List.mem_of_getElem? (i := 667) (by decide +kernel)⟩
theorem lw_p3 : lw_okq (⟨"HandOverHorse$Text", "readLeaf", "(I)Z"⟩, 8) := ⟨⟨by decide +kernel, by decide +kernel⟩, List.mem_of_getElem? (i := 88) (by decide +kernel), List.mem_of_getElem? (i := 670) (by decide +kernel), List.mem_of_getElem? (i := 671) (by decide +kernel)⟩
theorem lw_p4 : lw_okq (⟨"HandOverHorse$Text", "here", "()I"⟩, 8) := ⟨⟨by decide +kernel, by decide +kernel⟩, List.mem_of_getElem? (i := 88) (by decide +kernel), List.mem_of_getElem? (i := 674) (by decide +kernel), List.mem_of_getElem? (i := 675) (by decide +kernel)⟩
theorem lw_p5 : lw_okq (⟨"HandOverHorse$Text", "readNumber", "()V"⟩, 8) := ⟨⟨by decide +kernel, by decide +kernel⟩, List.mem_of_getElem? (i := 88) (by decide +kernel), List.mem_of_getElem? (i := 681) (by decide +kernel), List.mem_of_getElem? (i := 682) (by decide +kernel)⟩
theorem lw_p6 : lw_okq (⟨"HandOverHorse$Text", "addStep", "(II)V"⟩, 8) := ⟨⟨by decide +kernel, by decide +kernel⟩, List.mem_of_getElem? (i := 88) (by decide +kernel), List.mem_of_getElem? (i := 685) (by decide +kernel), List.mem_of_getElem? (i := 686) (by decide +kernel)⟩
theorem lw_p7 : lw_okq (⟨"HandOverHorse$Text", "readNot", "(I)Z"⟩, 8) := ⟨⟨by decide +kernel, by decide +kernel⟩, List.mem_of_getElem? (i := 88) (by decide +kernel), List.mem_of_getElem? (i := 689) (by decide +kernel), List.mem_of_getElem? (i := 690) (by decide +kernel)⟩
theorem lw_p8 : lw_okq (⟨"HandOverHorse$Text", "readBracket", "(I)Z"⟩, 8) := ⟨⟨by decide +kernel, by decide +kernel⟩, List.mem_of_getElem? (i := 88) (by decide +kernel), List.mem_of_getElem? (i := 693) (by decide +kernel), List.mem_of_getElem? (i := 694) (by decide +kernel)⟩
theorem lw_p9 : lw_okq (⟨"HandOverHorse$Sets", "findBelow", "(LHandOverHorse$Wall;)V"⟩, 8) := ⟨⟨by decide +kernel, by decide +kernel⟩, List.mem_of_getElem? (i := 181) (by decide +kernel), List.mem_of_getElem? (i := 799) (by decide +kernel), List.mem_of_getElem? (i := 800) (by decide +kernel)⟩
theorem lw_p10 : lw_okq (⟨"HandOverHorse$Sets", "readyAfter", "(II)I"⟩, 8) := ⟨⟨by decide +kernel, by decide +kernel⟩, List.mem_of_getElem? (i := 181) (by decide +kernel), List.mem_of_getElem? (i := 806) (by decide +kernel), List.mem_of_getElem? (i := 807) (by decide +kernel)⟩
theorem lw_p11 : lw_okq (⟨"HandOverHorse$Sets", "findLosses", "(LHandOverHorse$Wall;)V"⟩, 8) := ⟨⟨by decide +kernel, by decide +kernel⟩, List.mem_of_getElem? (i := 181) (by decide +kernel), List.mem_of_getElem? (i := 830) (by decide +kernel), List.mem_of_getElem? (i := 831) (by decide +kernel)⟩
theorem lw_p12 : lw_okq (⟨"HandOverHorse$Sets", "lossOf", "(II)I"⟩, 8) := ⟨⟨by decide +kernel, by decide +kernel⟩, List.mem_of_getElem? (i := 181) (by decide +kernel), List.mem_of_getElem? (i := 836) (by decide +kernel), List.mem_of_getElem? (i := 837) (by decide +kernel)⟩
theorem lw_p13 : lw_okq (⟨"HandOverHorse$Sets", "firstOfBest", "(II)I"⟩, 8) := ⟨⟨by decide +kernel, by decide +kernel⟩, List.mem_of_getElem? (i := 181) (by decide +kernel), List.mem_of_getElem? (i := 841) (by decide +kernel), List.mem_of_getElem? (i := 842) (by decide +kernel)⟩
theorem lw_p14 : lw_okq (⟨"HandOverHorse$Spans", "pushUp", "(LHandOverHorse$Wall;)Z"⟩, 8) := ⟨⟨by decide +kernel, by decide +kernel⟩, List.mem_of_getElem? (i := 214) (by decide +kernel), List.mem_of_getElem? (i := 871) (by decide +kernel), List.mem_of_getElem? (i := 872) (by decide +kernel)⟩
theorem lw_p15 : lw_okq (⟨"HandOverHorse$Spans", "pushDown", "(LHandOverHorse$Wall;)V"⟩, 8) := ⟨⟨by decide +kernel, by decide +kernel⟩, List.mem_of_getElem? (i := 214) (by decide +kernel), List.mem_of_getElem? (i := 875) (by decide +kernel), List.mem_of_getElem? (i := 876) (by decide +kernel)⟩
def lw_privs_1 : List (MethodName × Nat) := [(⟨"HandOverHorse", "error", "(I)I"⟩, 10), (⟨"HandOverHorse$Wall", "datesOf", "(I)I"⟩, 13), (⟨"HandOverHorse$Text", "readLevel", "(II)Z"⟩, 8), (⟨"HandOverHorse$Text", "readLeaf", "(I)Z"⟩, 8), (⟨"HandOverHorse$Text", "here", "()I"⟩, 8), (⟨"HandOverHorse$Text", "readNumber", "()V"⟩, 8), (⟨"HandOverHorse$Text", "addStep", "(II)V"⟩, 8), (⟨"HandOverHorse$Text", "readNot", "(I)Z"⟩, 8), (⟨"HandOverHorse$Text", "readBracket", "(I)Z"⟩, 8), (⟨"HandOverHorse$Sets", "findBelow", "(LHandOverHorse$Wall;)V"⟩, 8), (⟨"HandOverHorse$Sets", "readyAfter", "(II)I"⟩, 8), (⟨"HandOverHorse$Sets", "findLosses", "(LHandOverHorse$Wall;)V"⟩, 8), (⟨"HandOverHorse$Sets", "lossOf", "(II)I"⟩, 8), (⟨"HandOverHorse$Sets", "firstOfBest", "(II)I"⟩, 8), (⟨"HandOverHorse$Spans", "pushUp", "(LHandOverHorse$Wall;)Z"⟩, 8), (⟨"HandOverHorse$Spans", "pushDown", "(LHandOverHorse$Wall;)V"⟩, 8)]
theorem lw_r1 : ∀ q ∈ lw_privs_1, lw_okq q := List.forall_mem_cons.mpr ⟨lw_p0, List.forall_mem_cons.mpr ⟨lw_p1, List.forall_mem_cons.mpr ⟨lw_p2, List.forall_mem_cons.mpr ⟨lw_p3, List.forall_mem_cons.mpr ⟨lw_p4, List.forall_mem_cons.mpr ⟨lw_p5, List.forall_mem_cons.mpr ⟨lw_p6, List.forall_mem_cons.mpr ⟨lw_p7, List.forall_mem_cons.mpr ⟨lw_p8, List.forall_mem_cons.mpr ⟨lw_p9, List.forall_mem_cons.mpr ⟨lw_p10, List.forall_mem_cons.mpr ⟨lw_p11, List.forall_mem_cons.mpr ⟨lw_p12, List.forall_mem_cons.mpr ⟨lw_p13, List.forall_mem_cons.mpr ⟨lw_p14, List.forall_mem_cons.mpr ⟨lw_p15, fun _ h => absurd h List.not_mem_nil⟩⟩⟩⟩⟩⟩⟩⟩⟩⟩⟩⟩⟩⟩⟩⟩
theorem lw_p16 : lw_okq (⟨"HandOverHorse$Spans", "widthOf", "(I)I"⟩, 8) := ⟨⟨by decide +kernel, by decide +kernel⟩, List.mem_of_getElem? (i := 214) (by decide +kernel), List.mem_of_getElem? (i := 888) (by decide +kernel), List.mem_of_getElem? (i := 889) (by decide +kernel)⟩
theorem lw_p17 : lw_okq (⟨"HandOverHorse$Spans", "worstOf", "(LHandOverHorse$Wall;I)I"⟩, 8) := ⟨⟨by decide +kernel, by decide +kernel⟩, List.mem_of_getElem? (i := 214) (by decide +kernel), List.mem_of_getElem? (i := 900) (by decide +kernel), List.mem_of_getElem? (i := 901) (by decide +kernel)⟩
theorem lw_p18 : lw_okq (⟨"HandOverHorse$Sets", "findBeasts", "(LHandOverHorse$Wall;)V"⟩, 8) := ⟨⟨by decide +kernel, by decide +kernel⟩, List.mem_of_getElem? (i := 181) (by decide +kernel), List.mem_of_getElem? (i := 955) (by decide +kernel), List.mem_of_getElem? (i := 956) (by decide +kernel)⟩
theorem lw_p19 : lw_okq (⟨"HandOverHorse$Sets", "findAlike", "(LHandOverHorse$Wall;)V"⟩, 8) := ⟨⟨by decide +kernel, by decide +kernel⟩, List.mem_of_getElem? (i := 181) (by decide +kernel), List.mem_of_getElem? (i := 985) (by decide +kernel), List.mem_of_getElem? (i := 986) (by decide +kernel)⟩
theorem lw_p20 : lw_okq (⟨"HandOverHorse$Sets", "areAlike", "(I)Z"⟩, 8) := ⟨⟨by decide +kernel, by decide +kernel⟩, List.mem_of_getElem? (i := 181) (by decide +kernel), List.mem_of_getElem? (i := 998) (by decide +kernel), List.mem_of_getElem? (i := 999) (by decide +kernel)⟩
theorem lw_p21 : lw_okq (⟨"HandOverHorse", "stand", "(III)Z"⟩, 10) := ⟨⟨by decide +kernel, by decide +kernel⟩, List.mem_of_getElem? (i := 23) (by decide +kernel), List.mem_of_getElem? (i := 1150) (by decide +kernel), List.mem_of_getElem? (i := 1151) (by decide +kernel)⟩
theorem lw_p22 : lw_okq (⟨"HandOverHorse$Wall", "allBelowAre", "(II)Z"⟩, 13) := ⟨⟨by decide +kernel, by decide +kernel⟩, List.mem_of_getElem? (i := 31) (by decide +kernel), List.mem_of_getElem? (i := 1195) (by decide +kernel), List.mem_of_getElem? (i := 1196) (by decide +kernel)⟩
theorem lw_p23 : lw_okq (⟨"HandOverHorseModel", "finds", "(I)I"⟩, 27) := ⟨⟨by decide +kernel, by decide +kernel⟩, List.mem_of_getElem? (i := 1207) (by decide +kernel), List.mem_of_getElem? (i := 1303) (by decide +kernel), List.mem_of_getElem? (i := 1304) (by decide +kernel)⟩
theorem lw_p24 : lw_okq (⟨"HandOverHorseModel", "worked", "(III)I"⟩, 27) := ⟨⟨by decide +kernel, by decide +kernel⟩, List.mem_of_getElem? (i := 1207) (by decide +kernel), List.mem_of_getElem? (i := 1313) (by decide +kernel), List.mem_of_getElem? (i := 1314) (by decide +kernel)⟩
theorem lw_p25 : lw_okq (⟨"HandOverHorseModel", "either", "()I"⟩, 27) := ⟨⟨by decide +kernel, by decide +kernel⟩, List.mem_of_getElem? (i := 1207) (by decide +kernel), List.mem_of_getElem? (i := 1317) (by decide +kernel), List.mem_of_getElem? (i := 1318) (by decide +kernel)⟩
theorem lw_p26 : lw_okq (⟨"HandOverHorseModel", "both", "()I"⟩, 27) := ⟨⟨by decide +kernel, by decide +kernel⟩, List.mem_of_getElem? (i := 1207) (by decide +kernel), List.mem_of_getElem? (i := 1321) (by decide +kernel), List.mem_of_getElem? (i := 1322) (by decide +kernel)⟩
theorem lw_p27 : lw_okq (⟨"HandOverHorseModel", "compared", "()I"⟩, 27) := ⟨⟨by decide +kernel, by decide +kernel⟩, List.mem_of_getElem? (i := 1207) (by decide +kernel), List.mem_of_getElem? (i := 1325) (by decide +kernel), List.mem_of_getElem? (i := 1326) (by decide +kernel)⟩
theorem lw_p28 : lw_okq (⟨"HandOverHorseModel", "sum", "()I"⟩, 27) := ⟨⟨by decide +kernel, by decide +kernel⟩, List.mem_of_getElem? (i := 1207) (by decide +kernel), List.mem_of_getElem? (i := 1329) (by decide +kernel), List.mem_of_getElem? (i := 1330) (by decide +kernel)⟩
theorem lw_p29 : lw_okq (⟨"HandOverHorseModel", "product", "()I"⟩, 27) := ⟨⟨by decide +kernel, by decide +kernel⟩, List.mem_of_getElem? (i := 1207) (by decide +kernel), List.mem_of_getElem? (i := 1333) (by decide +kernel), List.mem_of_getElem? (i := 1334) (by decide +kernel)⟩
theorem lw_p30 : lw_okq (⟨"HandOverHorseModel", "unit", "()I"⟩, 27) := ⟨⟨by decide +kernel, by decide +kernel⟩, List.mem_of_getElem? (i := 1207) (by decide +kernel), List.mem_of_getElem? (i := 1337) (by decide +kernel), List.mem_of_getElem? (i := 1338) (by decide +kernel)⟩
theorem lw_p31 : lw_okq (⟨"HandOverHorseModel", "here", "()I"⟩, 27) := ⟨⟨by decide +kernel, by decide +kernel⟩, List.mem_of_getElem? (i := 1207) (by decide +kernel), List.mem_of_getElem? (i := 1341) (by decide +kernel), List.mem_of_getElem? (i := 1342) (by decide +kernel)⟩
def lw_privs_2 : List (MethodName × Nat) := [(⟨"HandOverHorse$Spans", "widthOf", "(I)I"⟩, 8), (⟨"HandOverHorse$Spans", "worstOf", "(LHandOverHorse$Wall;I)I"⟩, 8), (⟨"HandOverHorse$Sets", "findBeasts", "(LHandOverHorse$Wall;)V"⟩, 8), (⟨"HandOverHorse$Sets", "findAlike", "(LHandOverHorse$Wall;)V"⟩, 8), (⟨"HandOverHorse$Sets", "areAlike", "(I)Z"⟩, 8), (⟨"HandOverHorse", "stand", "(III)Z"⟩, 10), (⟨"HandOverHorse$Wall", "allBelowAre", "(II)Z"⟩, 13), (⟨"HandOverHorseModel", "finds", "(I)I"⟩, 27), (⟨"HandOverHorseModel", "worked", "(III)I"⟩, 27), (⟨"HandOverHorseModel", "either", "()I"⟩, 27), (⟨"HandOverHorseModel", "both", "()I"⟩, 27), (⟨"HandOverHorseModel", "compared", "()I"⟩, 27), (⟨"HandOverHorseModel", "sum", "()I"⟩, 27), (⟨"HandOverHorseModel", "product", "()I"⟩, 27), (⟨"HandOverHorseModel", "unit", "()I"⟩, 27), (⟨"HandOverHorseModel", "here", "()I"⟩, 27)]
theorem lw_r2 : ∀ q ∈ lw_privs_2, lw_okq q := List.forall_mem_cons.mpr ⟨lw_p16, List.forall_mem_cons.mpr ⟨lw_p17, List.forall_mem_cons.mpr ⟨lw_p18, List.forall_mem_cons.mpr ⟨lw_p19, List.forall_mem_cons.mpr ⟨lw_p20, List.forall_mem_cons.mpr ⟨lw_p21, List.forall_mem_cons.mpr ⟨lw_p22, List.forall_mem_cons.mpr ⟨lw_p23, List.forall_mem_cons.mpr ⟨lw_p24, List.forall_mem_cons.mpr ⟨lw_p25, List.forall_mem_cons.mpr ⟨lw_p26, List.forall_mem_cons.mpr ⟨lw_p27, List.forall_mem_cons.mpr ⟨lw_p28, List.forall_mem_cons.mpr ⟨lw_p29, List.forall_mem_cons.mpr ⟨lw_p30, List.forall_mem_cons.mpr ⟨lw_p31, fun _ h => absurd h List.not_mem_nil⟩⟩⟩⟩⟩⟩⟩⟩⟩⟩⟩⟩⟩⟩⟩⟩
theorem lw_p32 : lw_okq (⟨"HandOverHorseModel", "wrong", "()I"⟩, 27) := ⟨⟨by decide +kernel, by decide +kernel⟩, List.mem_of_getElem? (i := 1207) (by decide +kernel), List.mem_of_getElem? (i := 1345) (by decide +kernel), List.mem_of_getElem? (i := 1346) (by decide +kernel)⟩
theorem lw_p33 : lw_okq (⟨"HandOverHorseModel", "takes", "(I)Z"⟩, 27) := ⟨⟨by decide +kernel, by decide +kernel⟩, List.mem_of_getElem? (i := 1207) (by decide +kernel), List.mem_of_getElem? (i := 1349) (by decide +kernel), List.mem_of_getElem? (i := 1350) (by decide +kernel)⟩
theorem lw_p34 : lw_okq (⟨"HandOverHorseModel", "nameOf", "(I)I"⟩, 27) := ⟨⟨by decide +kernel, by decide +kernel⟩, List.mem_of_getElem? (i := 1207) (by decide +kernel), List.mem_of_getElem? (i := 1353) (by decide +kernel), List.mem_of_getElem? (i := 1354) (by decide +kernel)⟩
theorem lw_p35 : lw_okq (⟨"HandOverHorseModel", "gives", "(IIIII)I"⟩, 27) := ⟨⟨by decide +kernel, by decide +kernel⟩, List.mem_of_getElem? (i := 1207) (by decide +kernel), List.mem_of_getElem? (i := 1363) (by decide +kernel), List.mem_of_getElem? (i := 1364) (by decide +kernel)⟩
theorem lw_p36 : lw_okq (⟨"HandOverHorseModel", "becomes", "(III)V"⟩, 27) := ⟨⟨by decide +kernel, by decide +kernel⟩, List.mem_of_getElem? (i := 1207) (by decide +kernel), List.mem_of_getElem? (i := 1377) (by decide +kernel), List.mem_of_getElem? (i := 1378) (by decide +kernel)⟩
theorem lw_p37 : lw_okq (⟨"HandOverHorseModel", "isStroke", "(I)Z"⟩, 27) := ⟨⟨by decide +kernel, by decide +kernel⟩, List.mem_of_getElem? (i := 1207) (by decide +kernel), List.mem_of_getElem? (i := 1385) (by decide +kernel), List.mem_of_getElem? (i := 1386) (by decide +kernel)⟩
theorem lw_p38 : lw_okq (⟨"HandOverHorseModel", "of", "(II)I"⟩, 27) := ⟨⟨by decide +kernel, by decide +kernel⟩, List.mem_of_getElem? (i := 1207) (by decide +kernel), List.mem_of_getElem? (i := 1390) (by decide +kernel), List.mem_of_getElem? (i := 1391) (by decide +kernel)⟩
theorem lw_p39 : lw_okq (⟨"HandOverHorseModel", "earlyOf", "(I)I"⟩, 27) := ⟨⟨by decide +kernel, by decide +kernel⟩, List.mem_of_getElem? (i := 1207) (by decide +kernel), List.mem_of_getElem? (i := 1394) (by decide +kernel), List.mem_of_getElem? (i := 1395) (by decide +kernel)⟩
theorem lw_p40 : lw_okq (⟨"HandOverHorseModel", "dates", "(I)I"⟩, 27) := ⟨⟨by decide +kernel, by decide +kernel⟩, List.mem_of_getElem? (i := 1207) (by decide +kernel), List.mem_of_getElem? (i := 1398) (by decide +kernel), List.mem_of_getElem? (i := 1399) (by decide +kernel)⟩
theorem lw_p41 : lw_okq (⟨"HandOverHorseModel", "lateOf", "(I)I"⟩, 27) := ⟨⟨by decide +kernel, by decide +kernel⟩, List.mem_of_getElem? (i := 1207) (by decide +kernel), List.mem_of_getElem? (i := 1402) (by decide +kernel), List.mem_of_getElem? (i := 1403) (by decide +kernel)⟩
theorem lw_p42 : lw_okq (⟨"HandOverHorseModel", "stuff", "(I)I"⟩, 27) := ⟨⟨by decide +kernel, by decide +kernel⟩, List.mem_of_getElem? (i := 1207) (by decide +kernel), List.mem_of_getElem? (i := 1406) (by decide +kernel), List.mem_of_getElem? (i := 1407) (by decide +kernel)⟩
theorem lw_p43 : lw_okq (⟨"HandOverHorseModel", "isTold", "(III)Z"⟩, 27) := ⟨⟨by decide +kernel, by decide +kernel⟩, List.mem_of_getElem? (i := 1207) (by decide +kernel), List.mem_of_getElem? (i := 1436) (by decide +kernel), List.mem_of_getElem? (i := 1437) (by decide +kernel)⟩
theorem lw_p44 : lw_okq (⟨"HandOverHorseModel", "lookComes", "(III)I"⟩, 27) := ⟨⟨by decide +kernel, by decide +kernel⟩, List.mem_of_getElem? (i := 1207) (by decide +kernel), List.mem_of_getElem? (i := 1440) (by decide +kernel), List.mem_of_getElem? (i := 1441) (by decide +kernel)⟩
theorem lw_p45 : lw_okq (⟨"HandOverHorseModel", "isLook", "(I)Z"⟩, 27) := ⟨⟨by decide +kernel, by decide +kernel⟩, List.mem_of_getElem? (i := 1207) (by decide +kernel), List.mem_of_getElem? (i := 1448) (by decide +kernel), List.mem_of_getElem? (i := 1449) (by decide +kernel)⟩
theorem lw_p46 : lw_okq (⟨"HandOverHorseModel", "weightOf", "(I)I"⟩, 27) := ⟨⟨by decide +kernel, by decide +kernel⟩, List.mem_of_getElem? (i := 1207) (by decide +kernel), List.mem_of_getElem? (i := 1453) (by decide +kernel), List.mem_of_getElem? (i := 1454) (by decide +kernel)⟩
theorem lw_p47 : lw_okq (⟨"HandOverHorseModel", "upper", "(I)I"⟩, 27) := ⟨⟨by decide +kernel, by decide +kernel⟩, List.mem_of_getElem? (i := 1207) (by decide +kernel), List.mem_of_getElem? (i := 1457) (by decide +kernel), List.mem_of_getElem? (i := 1458) (by decide +kernel)⟩
def lw_privs_3 : List (MethodName × Nat) := [(⟨"HandOverHorseModel", "wrong", "()I"⟩, 27), (⟨"HandOverHorseModel", "takes", "(I)Z"⟩, 27), (⟨"HandOverHorseModel", "nameOf", "(I)I"⟩, 27), (⟨"HandOverHorseModel", "gives", "(IIIII)I"⟩, 27), (⟨"HandOverHorseModel", "becomes", "(III)V"⟩, 27), (⟨"HandOverHorseModel", "isStroke", "(I)Z"⟩, 27), (⟨"HandOverHorseModel", "of", "(II)I"⟩, 27), (⟨"HandOverHorseModel", "earlyOf", "(I)I"⟩, 27), (⟨"HandOverHorseModel", "dates", "(I)I"⟩, 27), (⟨"HandOverHorseModel", "lateOf", "(I)I"⟩, 27), (⟨"HandOverHorseModel", "stuff", "(I)I"⟩, 27), (⟨"HandOverHorseModel", "isTold", "(III)Z"⟩, 27), (⟨"HandOverHorseModel", "lookComes", "(III)I"⟩, 27), (⟨"HandOverHorseModel", "isLook", "(I)Z"⟩, 27), (⟨"HandOverHorseModel", "weightOf", "(I)I"⟩, 27), (⟨"HandOverHorseModel", "upper", "(I)I"⟩, 27)]
theorem lw_r3 : ∀ q ∈ lw_privs_3, lw_okq q := List.forall_mem_cons.mpr ⟨lw_p32, List.forall_mem_cons.mpr ⟨lw_p33, List.forall_mem_cons.mpr ⟨lw_p34, List.forall_mem_cons.mpr ⟨lw_p35, List.forall_mem_cons.mpr ⟨lw_p36, List.forall_mem_cons.mpr ⟨lw_p37, List.forall_mem_cons.mpr ⟨lw_p38, List.forall_mem_cons.mpr ⟨lw_p39, List.forall_mem_cons.mpr ⟨lw_p40, List.forall_mem_cons.mpr ⟨lw_p41, List.forall_mem_cons.mpr ⟨lw_p42, List.forall_mem_cons.mpr ⟨lw_p43, List.forall_mem_cons.mpr ⟨lw_p44, List.forall_mem_cons.mpr ⟨lw_p45, List.forall_mem_cons.mpr ⟨lw_p46, List.forall_mem_cons.mpr ⟨lw_p47, fun _ h => absurd h List.not_mem_nil⟩⟩⟩⟩⟩⟩⟩⟩⟩⟩⟩⟩⟩⟩⟩⟩
theorem lw_p48 : lw_okq (⟨"HandOverHorseModel", "countWays", "()V"⟩, 27) := ⟨⟨by decide +kernel, by decide +kernel⟩, List.mem_of_getElem? (i := 1207) (by decide +kernel), List.mem_of_getElem? (i := 1473) (by decide +kernel), List.mem_of_getElem? (i := 1474) (by decide +kernel)⟩
theorem lw_p49 : lw_okq (⟨"HandOverHorseModel", "findBelow", "()V"⟩, 27) := ⟨⟨by decide +kernel, by decide +kernel⟩, List.mem_of_getElem? (i := 1207) (by decide +kernel), List.mem_of_getElem? (i := 1477) (by decide +kernel), List.mem_of_getElem? (i := 1478) (by decide +kernel)⟩
theorem lw_p50 : lw_okq (⟨"HandOverHorseModel", "lower", "(I)I"⟩, 27) := ⟨⟨by decide +kernel, by decide +kernel⟩, List.mem_of_getElem? (i := 1207) (by decide +kernel), List.mem_of_getElem? (i := 1481) (by decide +kernel), List.mem_of_getElem? (i := 1482) (by decide +kernel)⟩
theorem lw_p51 : lw_okq (⟨"HandOverHorseModel", "allStrokes", "()I"⟩, 27) := ⟨⟨by decide +kernel, by decide +kernel⟩, List.mem_of_getElem? (i := 1207) (by decide +kernel), List.mem_of_getElem? (i := 1485) (by decide +kernel), List.mem_of_getElem? (i := 1486) (by decide +kernel)⟩
theorem lw_p52 : lw_okq (⟨"HandOverHorseModel", "mayLie", "(II)Z"⟩, 27) := ⟨⟨by decide +kernel, by decide +kernel⟩, List.mem_of_getElem? (i := 1207) (by decide +kernel), List.mem_of_getElem? (i := 1489) (by decide +kernel), List.mem_of_getElem? (i := 1490) (by decide +kernel)⟩
theorem lw_p53 : lw_okq (⟨"HandOverHorseModel", "findBest", "()I"⟩, 27) := ⟨⟨by decide +kernel, by decide +kernel⟩, List.mem_of_getElem? (i := 1207) (by decide +kernel), List.mem_of_getElem? (i := 1501) (by decide +kernel), List.mem_of_getElem? (i := 1502) (by decide +kernel)⟩
theorem lw_p54 : lw_okq (⟨"HandOverHorseModel", "costs", "(II)I"⟩, 27) := ⟨⟨by decide +kernel, by decide +kernel⟩, List.mem_of_getElem? (i := 1207) (by decide +kernel), List.mem_of_getElem? (i := 1506) (by decide +kernel), List.mem_of_getElem? (i := 1507) (by decide +kernel)⟩
theorem lw_p55 : lw_okq (⟨"HandOverHorseModel", "whichWrong", "()I"⟩, 27) := ⟨⟨by decide +kernel, by decide +kernel⟩, List.mem_of_getElem? (i := 1207) (by decide +kernel), List.mem_of_getElem? (i := 1510) (by decide +kernel), List.mem_of_getElem? (i := 1511) (by decide +kernel)⟩
theorem lw_p56 : lw_okq (⟨"HandOverHorseModel", "findYears", "()V"⟩, 27) := ⟨⟨by decide +kernel, by decide +kernel⟩, List.mem_of_getElem? (i := 1207) (by decide +kernel), List.mem_of_getElem? (i := 1522) (by decide +kernel), List.mem_of_getElem? (i := 1523) (by decide +kernel)⟩
theorem lw_p57 : lw_okq (⟨"HandOverHorseModel", "pushes", "()Z"⟩, 27) := ⟨⟨by decide +kernel, by decide +kernel⟩, List.mem_of_getElem? (i := 1207) (by decide +kernel), List.mem_of_getElem? (i := 1526) (by decide +kernel), List.mem_of_getElem? (i := 1527) (by decide +kernel)⟩
theorem lw_p58 : lw_okq (⟨"HandOverHorseModel", "widthBy", "(II)I"⟩, 27) := ⟨⟨by decide +kernel, by decide +kernel⟩, List.mem_of_getElem? (i := 1207) (by decide +kernel), List.mem_of_getElem? (i := 1535) (by decide +kernel), List.mem_of_getElem? (i := 1536) (by decide +kernel)⟩
theorem lw_p59 : lw_okq (⟨"HandOverHorseModel", "worstOf", "(I)I"⟩, 27) := ⟨⟨by decide +kernel, by decide +kernel⟩, List.mem_of_getElem? (i := 1207) (by decide +kernel), List.mem_of_getElem? (i := 1543) (by decide +kernel), List.mem_of_getElem? (i := 1544) (by decide +kernel)⟩
theorem lw_p60 : lw_okq (⟨"HandOverHorseModel", "joined", "(II)Z"⟩, 27) := ⟨⟨by decide +kernel, by decide +kernel⟩, List.mem_of_getElem? (i := 1207) (by decide +kernel), List.mem_of_getElem? (i := 1551) (by decide +kernel), List.mem_of_getElem? (i := 1552) (by decide +kernel)⟩
theorem lw_p61 : lw_okq (⟨"HandOverHorseModel", "gapOf", "(I)I"⟩, 27) := ⟨⟨by decide +kernel, by decide +kernel⟩, List.mem_of_getElem? (i := 1207) (by decide +kernel), List.mem_of_getElem? (i := 1561) (by decide +kernel), List.mem_of_getElem? (i := 1562) (by decide +kernel)⟩
theorem lw_p62 : lw_okq (⟨"HandOverHorseModel", "isBeast", "(I)Z"⟩, 27) := ⟨⟨by decide +kernel, by decide +kernel⟩, List.mem_of_getElem? (i := 1207) (by decide +kernel), List.mem_of_getElem? (i := 1569) (by decide +kernel), List.mem_of_getElem? (i := 1570) (by decide +kernel)⟩
theorem lw_p63 : lw_okq (⟨"HandOverHorseModel", "mayCome", "(II)Z"⟩, 27) := ⟨⟨by decide +kernel, by decide +kernel⟩, List.mem_of_getElem? (i := 1207) (by decide +kernel), List.mem_of_getElem? (i := 1577) (by decide +kernel), List.mem_of_getElem? (i := 1578) (by decide +kernel)⟩
def lw_privs_4 : List (MethodName × Nat) := [(⟨"HandOverHorseModel", "countWays", "()V"⟩, 27), (⟨"HandOverHorseModel", "findBelow", "()V"⟩, 27), (⟨"HandOverHorseModel", "lower", "(I)I"⟩, 27), (⟨"HandOverHorseModel", "allStrokes", "()I"⟩, 27), (⟨"HandOverHorseModel", "mayLie", "(II)Z"⟩, 27), (⟨"HandOverHorseModel", "findBest", "()I"⟩, 27), (⟨"HandOverHorseModel", "costs", "(II)I"⟩, 27), (⟨"HandOverHorseModel", "whichWrong", "()I"⟩, 27), (⟨"HandOverHorseModel", "findYears", "()V"⟩, 27), (⟨"HandOverHorseModel", "pushes", "()Z"⟩, 27), (⟨"HandOverHorseModel", "widthBy", "(II)I"⟩, 27), (⟨"HandOverHorseModel", "worstOf", "(I)I"⟩, 27), (⟨"HandOverHorseModel", "joined", "(II)Z"⟩, 27), (⟨"HandOverHorseModel", "gapOf", "(I)I"⟩, 27), (⟨"HandOverHorseModel", "isBeast", "(I)Z"⟩, 27), (⟨"HandOverHorseModel", "mayCome", "(II)Z"⟩, 27)]
theorem lw_r4 : ∀ q ∈ lw_privs_4, lw_okq q := List.forall_mem_cons.mpr ⟨lw_p48, List.forall_mem_cons.mpr ⟨lw_p49, List.forall_mem_cons.mpr ⟨lw_p50, List.forall_mem_cons.mpr ⟨lw_p51, List.forall_mem_cons.mpr ⟨lw_p52, List.forall_mem_cons.mpr ⟨lw_p53, List.forall_mem_cons.mpr ⟨lw_p54, List.forall_mem_cons.mpr ⟨lw_p55, List.forall_mem_cons.mpr ⟨lw_p56, List.forall_mem_cons.mpr ⟨lw_p57, List.forall_mem_cons.mpr ⟨lw_p58, List.forall_mem_cons.mpr ⟨lw_p59, List.forall_mem_cons.mpr ⟨lw_p60, List.forall_mem_cons.mpr ⟨lw_p61, List.forall_mem_cons.mpr ⟨lw_p62, List.forall_mem_cons.mpr ⟨lw_p63, fun _ h => absurd h List.not_mem_nil⟩⟩⟩⟩⟩⟩⟩⟩⟩⟩⟩⟩⟩⟩⟩⟩
theorem lw_p64 : lw_okq (⟨"HandOverHorseModel", "isHand", "(II)Z"⟩, 27) := ⟨⟨by decide +kernel, by decide +kernel⟩, List.mem_of_getElem? (i := 1207) (by decide +kernel), List.mem_of_getElem? (i := 1590) (by decide +kernel), List.mem_of_getElem? (i := 1591) (by decide +kernel)⟩
theorem lw_p65 : lw_okq (⟨"HandOverHorseModel", "drawn", "()I"⟩, 27) := ⟨⟨by decide +kernel, by decide +kernel⟩, List.mem_of_getElem? (i := 1207) (by decide +kernel), List.mem_of_getElem? (i := 1601) (by decide +kernel), List.mem_of_getElem? (i := 1602) (by decide +kernel)⟩
theorem lw_p66 : lw_okq (⟨"HandOverHorseModel", "own", "()I"⟩, 27) := ⟨⟨by decide +kernel, by decide +kernel⟩, List.mem_of_getElem? (i := 1207) (by decide +kernel), List.mem_of_getElem? (i := 1614) (by decide +kernel), List.mem_of_getElem? (i := 1615) (by decide +kernel)⟩
theorem lw_p67 : lw_okq (⟨"HandOverHorseModel", "draws", "(II)I"⟩, 27) := ⟨⟨by decide +kernel, by decide +kernel⟩, List.mem_of_getElem? (i := 1207) (by decide +kernel), List.mem_of_getElem? (i := 1618) (by decide +kernel), List.mem_of_getElem? (i := 1619) (by decide +kernel)⟩
theorem lw_p68 : lw_okq (⟨"HandOverHorseModel", "ran", "(I)V"⟩, 27) := ⟨⟨by decide +kernel, by decide +kernel⟩, List.mem_of_getElem? (i := 1207) (by decide +kernel), List.mem_of_getElem? (i := 1622) (by decide +kernel), List.mem_of_getElem? (i := 1623) (by decide +kernel)⟩
theorem lw_p69 : lw_okq (⟨"HandOverHorseModel", "dries", "(II)I"⟩, 27) := ⟨⟨by decide +kernel, by decide +kernel⟩, List.mem_of_getElem? (i := 1207) (by decide +kernel), List.mem_of_getElem? (i := 1626) (by decide +kernel), List.mem_of_getElem? (i := 1627) (by decide +kernel)⟩
theorem lw_p70 : lw_okq (⟨"HandOverHorseModel", "peels", "(II)I"⟩, 27) := ⟨⟨by decide +kernel, by decide +kernel⟩, List.mem_of_getElem? (i := 1207) (by decide +kernel), List.mem_of_getElem? (i := 1630) (by decide +kernel), List.mem_of_getElem? (i := 1631) (by decide +kernel)⟩
theorem lw_p71 : lw_okq (⟨"HandOverHorseModel", "tells", "(II)I"⟩, 27) := ⟨⟨by decide +kernel, by decide +kernel⟩, List.mem_of_getElem? (i := 1207) (by decide +kernel), List.mem_of_getElem? (i := 1634) (by decide +kernel), List.mem_of_getElem? (i := 1635) (by decide +kernel)⟩
theorem lw_p72 : lw_okq (⟨"HandOverHorseModel", "whyNot", "(I)I"⟩, 27) := ⟨⟨by decide +kernel, by decide +kernel⟩, List.mem_of_getElem? (i := 1207) (by decide +kernel), List.mem_of_getElem? (i := 1661) (by decide +kernel), List.mem_of_getElem? (i := 1662) (by decide +kernel)⟩
theorem lw_p73 : lw_okq (⟨"HandOverHorseModel", "isRight", "(II)Z"⟩, 27) := ⟨⟨by decide +kernel, by decide +kernel⟩, List.mem_of_getElem? (i := 1207) (by decide +kernel), List.mem_of_getElem? (i := 1669) (by decide +kernel), List.mem_of_getElem? (i := 1670) (by decide +kernel)⟩
def lw_privs_5 : List (MethodName × Nat) := [(⟨"HandOverHorseModel", "isHand", "(II)Z"⟩, 27), (⟨"HandOverHorseModel", "drawn", "()I"⟩, 27), (⟨"HandOverHorseModel", "own", "()I"⟩, 27), (⟨"HandOverHorseModel", "draws", "(II)I"⟩, 27), (⟨"HandOverHorseModel", "ran", "(I)V"⟩, 27), (⟨"HandOverHorseModel", "dries", "(II)I"⟩, 27), (⟨"HandOverHorseModel", "peels", "(II)I"⟩, 27), (⟨"HandOverHorseModel", "tells", "(II)I"⟩, 27), (⟨"HandOverHorseModel", "whyNot", "(I)I"⟩, 27), (⟨"HandOverHorseModel", "isRight", "(II)Z"⟩, 27)]
theorem lw_r5 : ∀ q ∈ lw_privs_5, lw_okq q := List.forall_mem_cons.mpr ⟨lw_p64, List.forall_mem_cons.mpr ⟨lw_p65, List.forall_mem_cons.mpr ⟨lw_p66, List.forall_mem_cons.mpr ⟨lw_p67, List.forall_mem_cons.mpr ⟨lw_p68, List.forall_mem_cons.mpr ⟨lw_p69, List.forall_mem_cons.mpr ⟨lw_p70, List.forall_mem_cons.mpr ⟨lw_p71, List.forall_mem_cons.mpr ⟨lw_p72, List.forall_mem_cons.mpr ⟨lw_p73, fun _ h => absurd h List.not_mem_nil⟩⟩⟩⟩⟩⟩⟩⟩⟩⟩
def lw_privs : List (MethodName × Nat) := lw_privs_1 ++ (lw_privs_2 ++ (lw_privs_3 ++ (lw_privs_4 ++ (lw_privs_5))))
def lw_tbl : List Cond := k2_sels lw_privs ++ tables_1
theorem lw_privs_ok : ∀ q ∈ lw_privs, lw_okq q := by
  show ∀ q ∈ lw_privs_1 ++ (lw_privs_2 ++ (lw_privs_3 ++ (lw_privs_4 ++ (lw_privs_5)))), lw_okq q
  exact List.forall_mem_append.mpr ⟨lw_r1, List.forall_mem_append.mpr ⟨lw_r2, List.forall_mem_append.mpr ⟨lw_r3, List.forall_mem_append.mpr ⟨lw_r4, lw_r5⟩⟩⟩⟩
-- names: classes in the order of the KINDS, then the others; fields by their slots
/-- the words of the tables that a call may take along -/
def xw : List Cond := lw_tbl.filter goodWord
theorem xw_of {w : Cond} (h : w ∈ lw_tbl) (hg : goodWord w = true) : w ∈ xw := List.mem_filter.mpr ⟨h, hg⟩
theorem xin_of {ws : List Cond} (ps : List Nat) (h : ps.map (fun i => lw_tbl[i]?) = ws.map some) (hg : ws.all goodWord = true) : ∀ w ∈ ws, w ∈ xw := by
  intro w hw
  refine xw_of ?_ (List.all_eq_true.mp hg w hw)
  have h1 : some w ∈ ws.map some := List.mem_map.mpr ⟨w, hw, rfl⟩
  rw [← h] at h1
  obtain ⟨i, -, hi⟩ := List.mem_map.mp h1
  exact List.mem_of_getElem? hi
def xT0 : u_T := fun k => match k with
  | 0 => ("HandOverHorse$Stroke", "number", "I", false)
  | 1 => ("HandOverHorse$Stroke", "m", "I", false)
  | 2 => ("HandOverHorse$Stroke", "cell", "I", false)
  | 3 => ("HandOverHorse$Stroke", "hand", "I", false)
  | 4 => ("HandOverHorse$Stroke", "from", "I", false)
  | 5 => ("HandOverHorse$Stroke", "to", "I", false)
  | _ => ("HandOverHorse$Stroke", "crust", "I", false)
def xt0 : Nat → FieldType := fun k => match k with
  | 0 => .int
  | 1 => .int
  | 2 => .int
  | 3 => .int
  | 4 => .int
  | 5 => .int
  | _ => .int
theorem xn0 : ∀ a, a < 7 → ∀ b, b < 7 → a ≠ b → (xT0 a).2.1 ≠ (xT0 b).2.1 := by decide +kernel
theorem xtk0 : ∀ k, k < 7 → parseFieldDescriptor (xT0 k).2.2.1 = some (xt0 k) := by decide +kernel
set_option maxRecDepth 20000 in
theorem xi0 : ∀ w ∈ u_ws "HandOverHorse$Stroke" xT0 7, w ∈ xw := xin_of [145, 147, 149, 151, 153, 155, 157] (by decide +kernel) (by decide +kernel)
def xT1 : u_T := fun k => match k with
  | 0 => ("HandOverHorse$Stroke", "number", "I", false)
  | 1 => ("HandOverHorse$Stroke", "m", "I", false)
  | 2 => ("HandOverHorse$Stroke", "cell", "I", false)
  | 3 => ("HandOverHorse$Stroke", "hand", "I", false)
  | 4 => ("HandOverHorse$Stroke", "from", "I", false)
  | 5 => ("HandOverHorse$Stroke", "to", "I", false)
  | _ => ("HandOverHorse$Stroke", "crust", "I", false)
def xt1 : Nat → FieldType := fun k => match k with
  | 0 => .int
  | 1 => .int
  | 2 => .int
  | 3 => .int
  | 4 => .int
  | 5 => .int
  | _ => .int
theorem xn1 : ∀ a, a < 7 → ∀ b, b < 7 → a ≠ b → (xT1 a).2.1 ≠ (xT1 b).2.1 := by decide +kernel
theorem xtk1 : ∀ k, k < 7 → parseFieldDescriptor (xT1 k).2.2.1 = some (xt1 k) := by decide +kernel
set_option maxRecDepth 20000 in
theorem xi1 : ∀ w ∈ u_ws "HandOverHorse$Red" xT1 7, w ∈ xw := xin_of [380, 381, 382, 383, 384, 385, 386] (by decide +kernel) (by decide +kernel)
def xT2 : u_T := fun k => match k with
  | 0 => ("HandOverHorse$Stroke", "number", "I", false)
  | 1 => ("HandOverHorse$Stroke", "m", "I", false)
  | 2 => ("HandOverHorse$Stroke", "cell", "I", false)
  | 3 => ("HandOverHorse$Stroke", "hand", "I", false)
  | 4 => ("HandOverHorse$Stroke", "from", "I", false)
  | 5 => ("HandOverHorse$Stroke", "to", "I", false)
  | _ => ("HandOverHorse$Stroke", "crust", "I", false)
def xt2 : Nat → FieldType := fun k => match k with
  | 0 => .int
  | 1 => .int
  | 2 => .int
  | 3 => .int
  | 4 => .int
  | 5 => .int
  | _ => .int
theorem xn2 : ∀ a, a < 7 → ∀ b, b < 7 → a ≠ b → (xT2 a).2.1 ≠ (xT2 b).2.1 := by decide +kernel
theorem xtk2 : ∀ k, k < 7 → parseFieldDescriptor (xT2 k).2.2.1 = some (xt2 k) := by decide +kernel
set_option maxRecDepth 20000 in
theorem xi2 : ∀ w ∈ u_ws "HandOverHorse$Black" xT2 7, w ∈ xw := xin_of [394, 395, 396, 397, 398, 399, 400] (by decide +kernel) (by decide +kernel)
def xT3 : u_T := fun k => match k with
  | 0 => ("HandOverHorse$Stroke", "number", "I", false)
  | 1 => ("HandOverHorse$Stroke", "m", "I", false)
  | 2 => ("HandOverHorse$Stroke", "cell", "I", false)
  | 3 => ("HandOverHorse$Stroke", "hand", "I", false)
  | 4 => ("HandOverHorse$Stroke", "from", "I", false)
  | 5 => ("HandOverHorse$Stroke", "to", "I", false)
  | _ => ("HandOverHorse$Stroke", "crust", "I", false)
def xt3 : Nat → FieldType := fun k => match k with
  | 0 => .int
  | 1 => .int
  | 2 => .int
  | 3 => .int
  | 4 => .int
  | 5 => .int
  | _ => .int
theorem xn3 : ∀ a, a < 7 → ∀ b, b < 7 → a ≠ b → (xT3 a).2.1 ≠ (xT3 b).2.1 := by decide +kernel
theorem xtk3 : ∀ k, k < 7 → parseFieldDescriptor (xT3 k).2.2.1 = some (xt3 k) := by decide +kernel
set_option maxRecDepth 20000 in
theorem xi3 : ∀ w ∈ u_ws "HandOverHorse$Scratch" xT3 7, w ∈ xw := xin_of [408, 409, 410, 411, 412, 413, 414] (by decide +kernel) (by decide +kernel)
def xT4 : u_T := fun k => match k with
  | 0 => ("HandOverHorse$Stroke", "number", "I", false)
  | 1 => ("HandOverHorse$Stroke", "m", "I", false)
  | 2 => ("HandOverHorse$Stroke", "cell", "I", false)
  | 3 => ("HandOverHorse$Stroke", "hand", "I", false)
  | 4 => ("HandOverHorse$Stroke", "from", "I", false)
  | 5 => ("HandOverHorse$Stroke", "to", "I", false)
  | _ => ("HandOverHorse$Stroke", "crust", "I", false)
def xt4 : Nat → FieldType := fun k => match k with
  | 0 => .int
  | 1 => .int
  | 2 => .int
  | 3 => .int
  | 4 => .int
  | 5 => .int
  | _ => .int
theorem xn4 : ∀ a, a < 7 → ∀ b, b < 7 → a ≠ b → (xT4 a).2.1 ≠ (xT4 b).2.1 := by decide +kernel
theorem xtk4 : ∀ k, k < 7 → parseFieldDescriptor (xT4 k).2.2.1 = some (xt4 k) := by decide +kernel
set_option maxRecDepth 20000 in
theorem xi4 : ∀ w ∈ u_ws "HandOverHorse$Child" xT4 7, w ∈ xw := xin_of [422, 423, 424, 425, 426, 427, 428] (by decide +kernel) (by decide +kernel)
def xT5 : u_T := fun k => match k with
  | 0 => ("HandOverHorse$Stroke", "number", "I", false)
  | 1 => ("HandOverHorse$Stroke", "m", "I", false)
  | 2 => ("HandOverHorse$Stroke", "cell", "I", false)
  | 3 => ("HandOverHorse$Stroke", "hand", "I", false)
  | 4 => ("HandOverHorse$Stroke", "from", "I", false)
  | 5 => ("HandOverHorse$Stroke", "to", "I", false)
  | _ => ("HandOverHorse$Stroke", "crust", "I", false)
def xt5 : Nat → FieldType := fun k => match k with
  | 0 => .int
  | 1 => .int
  | 2 => .int
  | 3 => .int
  | 4 => .int
  | 5 => .int
  | _ => .int
theorem xn5 : ∀ a, a < 7 → ∀ b, b < 7 → a ≠ b → (xT5 a).2.1 ≠ (xT5 b).2.1 := by decide +kernel
theorem xtk5 : ∀ k, k < 7 → parseFieldDescriptor (xT5 k).2.2.1 = some (xt5 k) := by decide +kernel
set_option maxRecDepth 20000 in
theorem xi5 : ∀ w ∈ u_ws "HandOverHorse$Soot" xT5 7, w ∈ xw := xin_of [436, 437, 438, 439, 440, 441, 442] (by decide +kernel) (by decide +kernel)
def xT6 : u_T := fun k => match k with
  | 0 => ("HandOverHorse$Stroke", "number", "I", false)
  | 1 => ("HandOverHorse$Stroke", "m", "I", false)
  | 2 => ("HandOverHorse$Stroke", "cell", "I", false)
  | 3 => ("HandOverHorse$Stroke", "hand", "I", false)
  | 4 => ("HandOverHorse$Stroke", "from", "I", false)
  | 5 => ("HandOverHorse$Stroke", "to", "I", false)
  | _ => ("HandOverHorse$Stroke", "crust", "I", false)
def xt6 : Nat → FieldType := fun k => match k with
  | 0 => .int
  | 1 => .int
  | 2 => .int
  | 3 => .int
  | 4 => .int
  | 5 => .int
  | _ => .int
theorem xn6 : ∀ a, a < 7 → ∀ b, b < 7 → a ≠ b → (xT6 a).2.1 ≠ (xT6 b).2.1 := by decide +kernel
theorem xtk6 : ∀ k, k < 7 → parseFieldDescriptor (xT6 k).2.2.1 = some (xt6 k) := by decide +kernel
set_option maxRecDepth 20000 in
theorem xi6 : ∀ w ∈ u_ws "HandOverHorse$Forged" xT6 7, w ∈ xw := xin_of [450, 451, 452, 453, 454, 455, 456] (by decide +kernel) (by decide +kernel)
def xT7 : u_T := fun k => match k with
  | 0 => ("HandOverHorse$Text", "steps", "[I", true)
  | 1 => ("HandOverHorse$Text", "values", "[I", true)
  | 2 => ("HandOverHorse$Text", "size", "I", false)
  | 3 => ("HandOverHorse$Text", "stack", "[I", true)
  | 4 => ("HandOverHorse$Text", "tape", "[I", false)
  | 5 => ("HandOverHorse$Text", "tapeCount", "I", false)
  | 6 => ("HandOverHorse$Text", "place", "I", false)
  | _ => ("HandOverHorse$Text", "names", "Ljava/lang/String;", false)
def xt7 : Nat → FieldType := fun k => match k with
  | 0 => .array .int
  | 1 => .array .int
  | 2 => .int
  | 3 => .array .int
  | 4 => .array .int
  | 5 => .int
  | 6 => .int
  | _ => .object "java/lang/String"
theorem xn7 : ∀ a, a < 8 → ∀ b, b < 8 → a ≠ b → (xT7 a).2.1 ≠ (xT7 b).2.1 := by decide +kernel
theorem xtk7 : ∀ k, k < 8 → parseFieldDescriptor (xT7 k).2.2.1 = some (xt7 k) := by decide +kernel
set_option maxRecDepth 20000 in
theorem xi7 : ∀ w ∈ u_ws "HandOverHorse$Text" xT7 8, w ∈ xw := xin_of [176, 178, 180, 182, 184, 186, 188, 190] (by decide +kernel) (by decide +kernel)
def xT8 : u_T := fun k => match k with
  | 0 => ("HandOverHorse$Wall", "strokes", "[LHandOverHorse$Stroke;", true)
  | 1 => ("HandOverHorse$Wall", "strokeCount", "I", false)
  | 2 => ("HandOverHorse$Wall", "uppers", "[I", true)
  | 3 => ("HandOverHorse$Wall", "lowers", "[I", true)
  | 4 => ("HandOverHorse$Wall", "seens", "[I", true)
  | 5 => ("HandOverHorse$Wall", "lookCount", "I", false)
  | 6 => ("HandOverHorse$Wall", "tape", "[I", true)
  | 7 => ("HandOverHorse$Wall", "tapeCount", "I", false)
  | 8 => ("HandOverHorse$Wall", "texts", "[LHandOverHorse$Text;", true)
  | 9 => ("HandOverHorse$Wall", "draft", "LHandOverHorse$Text;", true)
  | 10 => ("HandOverHorse$Wall", "waiting", "[I", true)
  | 11 => ("HandOverHorse$Wall", "waitingCount", "I", false)
  | _ => ("HandOverHorse$Wall", "z", "I", false)
def xt8 : Nat → FieldType := fun k => match k with
  | 0 => .array (.object "HandOverHorse$Stroke")
  | 1 => .int
  | 2 => .array .int
  | 3 => .array .int
  | 4 => .array .int
  | 5 => .int
  | 6 => .array .int
  | 7 => .int
  | 8 => .array (.object "HandOverHorse$Text")
  | 9 => .object "HandOverHorse$Text"
  | 10 => .array .int
  | 11 => .int
  | _ => .int
theorem xn8 : ∀ a, a < 13 → ∀ b, b < 13 → a ≠ b → (xT8 a).2.1 ≠ (xT8 b).2.1 := by decide +kernel
theorem xtk8 : ∀ k, k < 13 → parseFieldDescriptor (xT8 k).2.2.1 = some (xt8 k) := by decide +kernel
set_option maxRecDepth 20000 in
theorem xi8 : ∀ w ∈ u_ws "HandOverHorse$Wall" xT8 13, w ∈ xw := xin_of [227, 229, 231, 233, 235, 237, 239, 241, 243, 245, 247, 249, 251] (by decide +kernel) (by decide +kernel)
def xT9 : u_T := fun k => match k with
  | 0 => ("HandOverHorse$Sets", "bestOrder", "[I", true)
  | 1 => ("HandOverHorse$Sets", "below", "[I", true)
  | 2 => ("HandOverHorse$Sets", "friends", "[I", true)
  | 3 => ("HandOverHorse$Sets", "loss", "[I", true)
  | 4 => ("HandOverHorse$Sets", "alike", "[I", true)
  | 5 => ("HandOverHorse$Sets", "ways", "[I", true)
  | 6 => ("HandOverHorse$Sets", "fewest", "[I", true)
  | _ => ("HandOverHorse$Sets", "beast", "[Z", true)
def xt9 : Nat → FieldType := fun k => match k with
  | 0 => .array .int
  | 1 => .array .int
  | 2 => .array .int
  | 3 => .array .int
  | 4 => .array .int
  | 5 => .array .int
  | 6 => .array .int
  | _ => .array .boolean
theorem xn9 : ∀ a, a < 8 → ∀ b, b < 8 → a ≠ b → (xT9 a).2.1 ≠ (xT9 b).2.1 := by decide +kernel
theorem xtk9 : ∀ k, k < 8 → parseFieldDescriptor (xT9 k).2.2.1 = some (xt9 k) := by decide +kernel
set_option maxRecDepth 20000 in
theorem xi9 : ∀ w ∈ u_ws "HandOverHorse$Sets" xT9 8, w ∈ xw := xin_of [269, 271, 273, 275, 277, 279, 281, 283] (by decide +kernel) (by decide +kernel)
def xT10 : u_T := fun k => match k with
  | 0 => ("HandOverHorse$Spans", "least", "[I", true)
  | 1 => ("HandOverHorse$Spans", "greatest", "[I", true)
  | 2 => ("HandOverHorse$Spans", "nextStroke", "I", false)
  | 3 => ("HandOverHorse$Spans", "nextWorst", "I", false)
  | 4 => ("HandOverHorse$Spans", "early", "[I", true)
  | 5 => ("HandOverHorse$Spans", "late", "[I", true)
  | 6 => ("HandOverHorse$Spans", "firstLeast", "[I", true)
  | _ => ("HandOverHorse$Spans", "firstGreatest", "[I", true)
def xt10 : Nat → FieldType := fun k => match k with
  | 0 => .array .int
  | 1 => .array .int
  | 2 => .int
  | 3 => .int
  | 4 => .array .int
  | 5 => .array .int
  | 6 => .array .int
  | _ => .array .int
theorem xn10 : ∀ a, a < 8 → ∀ b, b < 8 → a ≠ b → (xT10 a).2.1 ≠ (xT10 b).2.1 := by decide +kernel
theorem xtk10 : ∀ k, k < 8 → parseFieldDescriptor (xT10 k).2.2.1 = some (xt10 k) := by decide +kernel
set_option maxRecDepth 20000 in
theorem xi10 : ∀ w ∈ u_ws "HandOverHorse$Spans" xT10 8, w ∈ xw := xin_of [305, 307, 309, 311, 313, 315, 317, 319] (by decide +kernel) (by decide +kernel)
def xT11 : u_T := fun k => match k with
  | 0 => ("HandOverHorse", "wall", "LHandOverHorse$Wall;", true)
  | 1 => ("HandOverHorse", "kept", "LHandOverHorse$Wall;", true)
  | 2 => ("HandOverHorse", "sets", "LHandOverHorse$Sets;", true)
  | 3 => ("HandOverHorse", "spans", "LHandOverHorse$Spans;", true)
  | 4 => ("HandOverHorse", "sheets", "[[I", true)
  | 5 => ("HandOverHorse", "sheetBits", "[I", true)
  | 6 => ("HandOverHorse", "sheetSizes", "[I", true)
  | 7 => ("HandOverHorse", "bodies", "[I", true)
  | 8 => ("HandOverHorse", "errors", "[I", true)
  | _ => ("HandOverHorse", "images", "I", false)
def xt11 : Nat → FieldType := fun k => match k with
  | 0 => .object "HandOverHorse$Wall"
  | 1 => .object "HandOverHorse$Wall"
  | 2 => .object "HandOverHorse$Sets"
  | 3 => .object "HandOverHorse$Spans"
  | 4 => .array (.array .int)
  | 5 => .array .int
  | 6 => .array .int
  | 7 => .array .int
  | 8 => .array .int
  | _ => .int
theorem xn11 : ∀ a, a < 10 → ∀ b, b < 10 → a ≠ b → (xT11 a).2.1 ≠ (xT11 b).2.1 := by decide +kernel
theorem xtk11 : ∀ k, k < 10 → parseFieldDescriptor (xT11 k).2.2.1 = some (xt11 k) := by decide +kernel
set_option maxRecDepth 20000 in
theorem xi11 : ∀ w ∈ u_ws "HandOverHorse" xT11 10, w ∈ xw := xin_of [334, 336, 338, 340, 342, 344, 346, 348, 350, 352] (by decide +kernel) (by decide +kernel)
def xT12 : u_T := fun k => match k with
  | 0 => ("HandOverHorseModel", "d", "[I", true)
  | 1 => ("HandOverHorseModel", "kept", "[I", true)
  | 2 => ("HandOverHorseModel", "images", "I", false)
  | 3 => ("HandOverHorseModel", "found", "[I", true)
  | 4 => ("HandOverHorseModel", "base", "I", false)
  | 5 => ("HandOverHorseModel", "at", "I", false)
  | 6 => ("HandOverHorseModel", "size", "I", false)
  | 7 => ("HandOverHorseModel", "fault", "I", false)
  | 8 => ("HandOverHorseModel", "opened", "I", false)
  | 9 => ("HandOverHorseModel", "isDoubt", "Z", false)
  | 10 => ("HandOverHorseModel", "names", "[I", true)
  | 11 => ("HandOverHorseModel", "below", "[I", true)
  | 12 => ("HandOverHorseModel", "waysTo", "[I", true)
  | 13 => ("HandOverHorseModel", "waysOn", "[I", true)
  | 14 => ("HandOverHorseModel", "least", "[I", true)
  | 15 => ("HandOverHorseModel", "row", "[I", true)
  | 16 => ("HandOverHorseModel", "early", "[I", true)
  | 17 => ("HandOverHorseModel", "late", "[I", true)
  | 18 => ("HandOverHorseModel", "beast", "[Z", true)
  | 19 => ("HandOverHorseModel", "parted", "[I", true)
  | 20 => ("HandOverHorseModel", "traced", "[I", true)
  | 21 => ("HandOverHorseModel", "traceMany", "I", false)
  | 22 => ("HandOverHorseModel", "who", "I", false)
  | 23 => ("HandOverHorseModel", "bitsOf", "[I", true)
  | 24 => ("HandOverHorseModel", "sizeOf", "[I", true)
  | 25 => ("HandOverHorseModel", "number", "[I", true)
  | _ => ("HandOverHorseModel", "lifted", "[I", true)
def xt12 : Nat → FieldType := fun k => match k with
  | 0 => .array .int
  | 1 => .array .int
  | 2 => .int
  | 3 => .array .int
  | 4 => .int
  | 5 => .int
  | 6 => .int
  | 7 => .int
  | 8 => .int
  | 9 => .boolean
  | 10 => .array .int
  | 11 => .array .int
  | 12 => .array .int
  | 13 => .array .int
  | 14 => .array .int
  | 15 => .array .int
  | 16 => .array .int
  | 17 => .array .int
  | 18 => .array .boolean
  | 19 => .array .int
  | 20 => .array .int
  | 21 => .int
  | 22 => .int
  | 23 => .array .int
  | 24 => .array .int
  | 25 => .array .int
  | _ => .array .int
theorem xn12 : ∀ a, a < 27 → ∀ b, b < 27 → a ≠ b → (xT12 a).2.1 ≠ (xT12 b).2.1 := by decide +kernel
theorem xtk12 : ∀ k, k < 27 → parseFieldDescriptor (xT12 k).2.2.1 = some (xt12 k) := by decide +kernel
set_option maxRecDepth 20000 in
theorem xi12 : ∀ w ∈ u_ws "HandOverHorseModel" xT12 27, w ∈ xw := xin_of [1313, 1315, 1317, 1319, 1321, 1323, 1325, 1327, 1329, 1331, 1333, 1335, 1337, 1339, 1341, 1343, 1345, 1347, 1349, 1351, 1353, 1355, 1357, 1359, 1361, 1363, 1365] (by decide +kernel) (by decide +kernel)
def xCl : List vw_C := [("HandOverHorse$Stroke", xT0, 7), ("HandOverHorse$Red", xT1, 7), ("HandOverHorse$Black", xT2, 7), ("HandOverHorse$Scratch", xT3, 7), ("HandOverHorse$Child", xT4, 7), ("HandOverHorse$Soot", xT5, 7), ("HandOverHorse$Forged", xT6, 7), ("HandOverHorse$Text", xT7, 8), ("HandOverHorse$Wall", xT8, 13), ("HandOverHorse$Sets", xT9, 8), ("HandOverHorse$Spans", xT10, 8), ("HandOverHorse", xT11, 10), ("HandOverHorseModel", xT12, 27)]
