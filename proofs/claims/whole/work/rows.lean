section
-- ===== PART A: goes FIRST, ahead of the names: the tables' words, and 'selects' of the private methods out of them =====
/-- a private method of a class that the tables say can be made, by its rows of tables_1 -/
def lw_okq (q : MethodName × Nat) : Prop := (q.1.cls ≠ "java/lang/invoke/MethodHandle" ∧ q.1.cls ≠ "java/lang/invoke/VarHandle") ∧ Cond.instantiable q.1.cls q.2 ∈ tables_1 ∧ Cond.privateMethod q.1 ∈ tables_1 ∧ Cond.instanceMethod q.1 ∈ tables_1
theorem lw_p0 : lw_okq (⟨"Chipfold$Graph", "neighboursOf", "(I)I"⟩, 4) := ⟨⟨by decide +kernel, by decide +kernel⟩, List.mem_of_getElem? (i := 46) (by decide +kernel), List.mem_of_getElem? (i := 268) (by decide +kernel), List.mem_of_getElem? (i := 269) (by decide +kernel)⟩
theorem lw_p1 : lw_okq (⟨"Chipfold$Group", "minor", "(II)J"⟩, 3) := ⟨⟨by decide +kernel, by decide +kernel⟩, List.mem_of_getElem? (i := 120) (by decide +kernel), List.mem_of_getElem? (i := 300) (by decide +kernel), List.mem_of_getElem? (i := 301) (by decide +kernel)⟩
theorem lw_p2 : lw_okq (⟨"Chipfold$Group", "entry", "(II)I"⟩, 3) := ⟨⟨by decide +kernel, by decide +kernel⟩, List.mem_of_getElem? (i := 120) (by decide +kernel), List.mem_of_getElem? (i := 304) (by decide +kernel), List.mem_of_getElem? (i := 305) (by decide +kernel)⟩
theorem lw_p3 : lw_okq (⟨"Chipfold$Matrix", "pivotRow", "(II)I"⟩, 1) := ⟨⟨by decide +kernel, by decide +kernel⟩, List.mem_of_getElem? (i := 126) (by decide +kernel), List.mem_of_getElem? (i := 325) (by decide +kernel), List.mem_of_getElem? (i := 326) (by decide +kernel)⟩
theorem lw_p4 : lw_okq (⟨"Chipfold$Matrix", "swapRows", "(III)V"⟩, 1) := ⟨⟨by decide +kernel, by decide +kernel⟩, List.mem_of_getElem? (i := 126) (by decide +kernel), List.mem_of_getElem? (i := 333) (by decide +kernel), List.mem_of_getElem? (i := 334) (by decide +kernel)⟩
theorem lw_p5 : lw_okq (⟨"Chipfold$Matrix", "clearBelow", "(IIJ)V"⟩, 1) := ⟨⟨by decide +kernel, by decide +kernel⟩, List.mem_of_getElem? (i := 126) (by decide +kernel), List.mem_of_getElem? (i := 338) (by decide +kernel), List.mem_of_getElem? (i := 339) (by decide +kernel)⟩
theorem lw_p6 : lw_okq (⟨"Chipfold", "settlesAlikeFromAbove", "()Z"⟩, 11) := ⟨⟨by decide +kernel, by decide +kernel⟩, List.mem_of_getElem? (i := 38) (by decide +kernel), List.mem_of_getElem? (i := 373) (by decide +kernel), List.mem_of_getElem? (i := 374) (by decide +kernel)⟩
theorem lw_p7 : lw_okq (⟨"Chipfold$Debts", "writeRest", "()V"⟩, 7) := ⟨⟨by decide +kernel, by decide +kernel⟩, List.mem_of_getElem? (i := 179) (by decide +kernel), List.mem_of_getElem? (i := 441) (by decide +kernel), List.mem_of_getElem? (i := 442) (by decide +kernel)⟩
theorem lw_p8 : lw_okq (⟨"Chipfold$Debts", "findMissing", "(LChipfold$Row;)V"⟩, 7) := ⟨⟨by decide +kernel, by decide +kernel⟩, List.mem_of_getElem? (i := 179) (by decide +kernel), List.mem_of_getElem? (i := 454) (by decide +kernel), List.mem_of_getElem? (i := 455) (by decide +kernel)⟩
theorem lw_p9 : lw_okq (⟨"Chipfold$Debts", "rankWithLosses", "(III)I"⟩, 7) := ⟨⟨by decide +kernel, by decide +kernel⟩, List.mem_of_getElem? (i := 179) (by decide +kernel), List.mem_of_getElem? (i := 479) (by decide +kernel), List.mem_of_getElem? (i := 480) (by decide +kernel)⟩
theorem lw_p10 : lw_okq (⟨"Chipfold$Debts", "sinkReduced", "(ILChipfold$Pile;)I"⟩, 7) := ⟨⟨by decide +kernel, by decide +kernel⟩, List.mem_of_getElem? (i := 179) (by decide +kernel), List.mem_of_getElem? (i := 493) (by decide +kernel), List.mem_of_getElem? (i := 494) (by decide +kernel)⟩
theorem lw_p11 : lw_okq (⟨"Chipfold$Debts", "nextLosses", "()Z"⟩, 7) := ⟨⟨by decide +kernel, by decide +kernel⟩, List.mem_of_getElem? (i := 179) (by decide +kernel), List.mem_of_getElem? (i := 499) (by decide +kernel), List.mem_of_getElem? (i := 500) (by decide +kernel)⟩
theorem lw_p12 : lw_okq (⟨"java/lang/Throwable", "fillInStackTrace", "(I)Ljava/lang/Throwable;"⟩, 6) := ⟨⟨by decide +kernel, by decide +kernel⟩, List.mem_of_getElem? (i := 554) (by decide +kernel), List.mem_of_getElem? (i := 552) (by decide +kernel), List.mem_of_getElem? (i := 553) (by decide +kernel)⟩
theorem lw_p13 : lw_okq (⟨"Chipfold", "beginAgain", "()V"⟩, 11) := ⟨⟨by decide +kernel, by decide +kernel⟩, List.mem_of_getElem? (i := 38) (by decide +kernel), List.mem_of_getElem? (i := 588) (by decide +kernel), List.mem_of_getElem? (i := 589) (by decide +kernel)⟩
theorem lw_p14 : lw_okq (⟨"Chipfold", "needVertex", "(I)V"⟩, 11) := ⟨⟨by decide +kernel, by decide +kernel⟩, List.mem_of_getElem? (i := 38) (by decide +kernel), List.mem_of_getElem? (i := 634) (by decide +kernel), List.mem_of_getElem? (i := 635) (by decide +kernel)⟩
theorem lw_p15 : lw_okq (⟨"Chipfold$Graph", "joinOneWay", "(III)V"⟩, 4) := ⟨⟨by decide +kernel, by decide +kernel⟩, List.mem_of_getElem? (i := 46) (by decide +kernel), List.mem_of_getElem? (i := 677) (by decide +kernel), List.mem_of_getElem? (i := 678) (by decide +kernel)⟩
def lw_privs_1 : List (MethodName × Nat) := [(⟨"Chipfold$Graph", "neighboursOf", "(I)I"⟩, 4), (⟨"Chipfold$Group", "minor", "(II)J"⟩, 3), (⟨"Chipfold$Group", "entry", "(II)I"⟩, 3), (⟨"Chipfold$Matrix", "pivotRow", "(II)I"⟩, 1), (⟨"Chipfold$Matrix", "swapRows", "(III)V"⟩, 1), (⟨"Chipfold$Matrix", "clearBelow", "(IIJ)V"⟩, 1), (⟨"Chipfold", "settlesAlikeFromAbove", "()Z"⟩, 11), (⟨"Chipfold$Debts", "writeRest", "()V"⟩, 7), (⟨"Chipfold$Debts", "findMissing", "(LChipfold$Row;)V"⟩, 7), (⟨"Chipfold$Debts", "rankWithLosses", "(III)I"⟩, 7), (⟨"Chipfold$Debts", "sinkReduced", "(ILChipfold$Pile;)I"⟩, 7), (⟨"Chipfold$Debts", "nextLosses", "()Z"⟩, 7), (⟨"java/lang/Throwable", "fillInStackTrace", "(I)Ljava/lang/Throwable;"⟩, 6), (⟨"Chipfold", "beginAgain", "()V"⟩, 11), (⟨"Chipfold", "needVertex", "(I)V"⟩, 11), (⟨"Chipfold$Graph", "joinOneWay", "(III)V"⟩, 4)]
theorem lw_r1 : ∀ q ∈ lw_privs_1, lw_okq q := List.forall_mem_cons.mpr ⟨lw_p0, List.forall_mem_cons.mpr ⟨lw_p1, List.forall_mem_cons.mpr ⟨lw_p2, List.forall_mem_cons.mpr ⟨lw_p3, List.forall_mem_cons.mpr ⟨lw_p4, List.forall_mem_cons.mpr ⟨lw_p5, List.forall_mem_cons.mpr ⟨lw_p6, List.forall_mem_cons.mpr ⟨lw_p7, List.forall_mem_cons.mpr ⟨lw_p8, List.forall_mem_cons.mpr ⟨lw_p9, List.forall_mem_cons.mpr ⟨lw_p10, List.forall_mem_cons.mpr ⟨lw_p11, List.forall_mem_cons.mpr ⟨lw_p12, List.forall_mem_cons.mpr ⟨lw_p13, List.forall_mem_cons.mpr ⟨lw_p14, List.forall_mem_cons.mpr ⟨lw_p15, fun _ h => absurd h List.not_mem_nil⟩⟩⟩⟩⟩⟩⟩⟩⟩⟩⟩⟩⟩⟩⟩⟩
theorem lw_p16 : lw_okq (⟨"Chipfold", "needWhole", "()V"⟩, 11) := ⟨⟨by decide +kernel, by decide +kernel⟩, List.mem_of_getElem? (i := 38) (by decide +kernel), List.mem_of_getElem? (i := 756) (by decide +kernel), List.mem_of_getElem? (i := 757) (by decide +kernel)⟩
theorem lw_p17 : lw_okq (⟨"Chipfold$Pile", "unburntEdges", "(ILChipfold$Row;)I"⟩, 4) := ⟨⟨by decide +kernel, by decide +kernel⟩, List.mem_of_getElem? (i := 82) (by decide +kernel), List.mem_of_getElem? (i := 801) (by decide +kernel), List.mem_of_getElem? (i := 802) (by decide +kernel)⟩
theorem lw_p18 : lw_okq (⟨"Chipfold$Group", "divisorOfMinors", "(I)J"⟩, 3) := ⟨⟨by decide +kernel, by decide +kernel⟩, List.mem_of_getElem? (i := 120) (by decide +kernel), List.mem_of_getElem? (i := 848) (by decide +kernel), List.mem_of_getElem? (i := 849) (by decide +kernel)⟩
theorem lw_p19 : lw_okq (⟨"Chipfold$Group", "determinantWith", "(LChipfold$Pile;I)J"⟩, 3) := ⟨⟨by decide +kernel, by decide +kernel⟩, List.mem_of_getElem? (i := 120) (by decide +kernel), List.mem_of_getElem? (i := 891) (by decide +kernel), List.mem_of_getElem? (i := 892) (by decide +kernel)⟩
theorem lw_p20 : lw_okq (⟨"Chipfold$Rotors", "turn", "(I)V"⟩, 3) := ⟨⟨by decide +kernel, by decide +kernel⟩, List.mem_of_getElem? (i := 161) (by decide +kernel), List.mem_of_getElem? (i := 919) (by decide +kernel), List.mem_of_getElem? (i := 920) (by decide +kernel)⟩
theorem lw_p21 : lw_okq (⟨"Chipfold$Drawing", "toppleCell", "(I)I"⟩, 2) := ⟨⟨by decide +kernel, by decide +kernel⟩, List.mem_of_getElem? (i := 211) (by decide +kernel), List.mem_of_getElem? (i := 1040) (by decide +kernel), List.mem_of_getElem? (i := 1041) (by decide +kernel)⟩
theorem lw_p22 : lw_okq (⟨"ChipfoldModel", "begin", "()V"⟩, 12) := ⟨⟨by decide +kernel, by decide +kernel⟩, List.mem_of_getElem? (i := 1114) (by decide +kernel), List.mem_of_getElem? (i := 1167) (by decide +kernel), List.mem_of_getElem? (i := 1168) (by decide +kernel)⟩
theorem lw_p23 : lw_okq (⟨"ChipfoldModel", "isVertex", "(I)Z"⟩, 12) := ⟨⟨by decide +kernel, by decide +kernel⟩, List.mem_of_getElem? (i := 1114) (by decide +kernel), List.mem_of_getElem? (i := 1175) (by decide +kernel), List.mem_of_getElem? (i := 1176) (by decide +kernel)⟩
theorem lw_p24 : lw_okq (⟨"ChipfoldModel", "wrongVertex", "(I)I"⟩, 12) := ⟨⟨by decide +kernel, by decide +kernel⟩, List.mem_of_getElem? (i := 1114) (by decide +kernel), List.mem_of_getElem? (i := 1186) (by decide +kernel), List.mem_of_getElem? (i := 1187) (by decide +kernel)⟩
theorem lw_p25 : lw_okq (⟨"ChipfoldModel", "degreeOf", "(I)I"⟩, 12) := ⟨⟨by decide +kernel, by decide +kernel⟩, List.mem_of_getElem? (i := 1114) (by decide +kernel), List.mem_of_getElem? (i := 1194) (by decide +kernel), List.mem_of_getElem? (i := 1195) (by decide +kernel)⟩
theorem lw_p26 : lw_okq (⟨"ChipfoldModel", "whole", "()Z"⟩, 12) := ⟨⟨by decide +kernel, by decide +kernel⟩, List.mem_of_getElem? (i := 1114) (by decide +kernel), List.mem_of_getElem? (i := 1202) (by decide +kernel), List.mem_of_getElem? (i := 1203) (by decide +kernel)⟩
theorem lw_p27 : lw_okq (⟨"ChipfoldModel", "reach", "(I[Z)V"⟩, 12) := ⟨⟨by decide +kernel, by decide +kernel⟩, List.mem_of_getElem? (i := 1114) (by decide +kernel), List.mem_of_getElem? (i := 1206) (by decide +kernel), List.mem_of_getElem? (i := 1207) (by decide +kernel)⟩
theorem lw_p28 : lw_okq (⟨"ChipfoldModel", "can", "([II)Z"⟩, 12) := ⟨⟨by decide +kernel, by decide +kernel⟩, List.mem_of_getElem? (i := 1114) (by decide +kernel), List.mem_of_getElem? (i := 1223) (by decide +kernel), List.mem_of_getElem? (i := 1224) (by decide +kernel)⟩
theorem lw_p29 : lw_okq (⟨"ChipfoldModel", "topples", "([III)V"⟩, 12) := ⟨⟨by decide +kernel, by decide +kernel⟩, List.mem_of_getElem? (i := 1114) (by decide +kernel), List.mem_of_getElem? (i := 1227) (by decide +kernel), List.mem_of_getElem? (i := 1228) (by decide +kernel)⟩
theorem lw_p30 : lw_okq (⟨"ChipfoldModel", "swallow", "()V"⟩, 12) := ⟨⟨by decide +kernel, by decide +kernel⟩, List.mem_of_getElem? (i := 1114) (by decide +kernel), List.mem_of_getElem? (i := 1231) (by decide +kernel), List.mem_of_getElem? (i := 1232) (by decide +kernel)⟩
theorem lw_p31 : lw_okq (⟨"ChipfoldModel", "wrongWhole", "()I"⟩, 12) := ⟨⟨by decide +kernel, by decide +kernel⟩, List.mem_of_getElem? (i := 1114) (by decide +kernel), List.mem_of_getElem? (i := 1239) (by decide +kernel), List.mem_of_getElem? (i := 1240) (by decide +kernel)⟩
def lw_privs_2 : List (MethodName × Nat) := [(⟨"Chipfold", "needWhole", "()V"⟩, 11), (⟨"Chipfold$Pile", "unburntEdges", "(ILChipfold$Row;)I"⟩, 4), (⟨"Chipfold$Group", "divisorOfMinors", "(I)J"⟩, 3), (⟨"Chipfold$Group", "determinantWith", "(LChipfold$Pile;I)J"⟩, 3), (⟨"Chipfold$Rotors", "turn", "(I)V"⟩, 3), (⟨"Chipfold$Drawing", "toppleCell", "(I)I"⟩, 2), (⟨"ChipfoldModel", "begin", "()V"⟩, 12), (⟨"ChipfoldModel", "isVertex", "(I)Z"⟩, 12), (⟨"ChipfoldModel", "wrongVertex", "(I)I"⟩, 12), (⟨"ChipfoldModel", "degreeOf", "(I)I"⟩, 12), (⟨"ChipfoldModel", "whole", "()Z"⟩, 12), (⟨"ChipfoldModel", "reach", "(I[Z)V"⟩, 12), (⟨"ChipfoldModel", "can", "([II)Z"⟩, 12), (⟨"ChipfoldModel", "topples", "([III)V"⟩, 12), (⟨"ChipfoldModel", "swallow", "()V"⟩, 12), (⟨"ChipfoldModel", "wrongWhole", "()I"⟩, 12)]
theorem lw_r2 : ∀ q ∈ lw_privs_2, lw_okq q := List.forall_mem_cons.mpr ⟨lw_p16, List.forall_mem_cons.mpr ⟨lw_p17, List.forall_mem_cons.mpr ⟨lw_p18, List.forall_mem_cons.mpr ⟨lw_p19, List.forall_mem_cons.mpr ⟨lw_p20, List.forall_mem_cons.mpr ⟨lw_p21, List.forall_mem_cons.mpr ⟨lw_p22, List.forall_mem_cons.mpr ⟨lw_p23, List.forall_mem_cons.mpr ⟨lw_p24, List.forall_mem_cons.mpr ⟨lw_p25, List.forall_mem_cons.mpr ⟨lw_p26, List.forall_mem_cons.mpr ⟨lw_p27, List.forall_mem_cons.mpr ⟨lw_p28, List.forall_mem_cons.mpr ⟨lw_p29, List.forall_mem_cons.mpr ⟨lw_p30, List.forall_mem_cons.mpr ⟨lw_p31, fun _ h => absurd h List.not_mem_nil⟩⟩⟩⟩⟩⟩⟩⟩⟩⟩⟩⟩⟩⟩⟩⟩
theorem lw_p32 : lw_okq (⟨"ChipfoldModel", "settles", "([I[I)I"⟩, 12) := ⟨⟨by decide +kernel, by decide +kernel⟩, List.mem_of_getElem? (i := 1114) (by decide +kernel), List.mem_of_getElem? (i := 1243) (by decide +kernel), List.mem_of_getElem? (i := 1244) (by decide +kernel)⟩
theorem lw_p33 : lw_okq (⟨"ChipfoldModel", "plain", "(I)I"⟩, 12) := ⟨⟨by decide +kernel, by decide +kernel⟩, List.mem_of_getElem? (i := 1114) (by decide +kernel), List.mem_of_getElem? (i := 1266) (by decide +kernel), List.mem_of_getElem? (i := 1267) (by decide +kernel)⟩
theorem lw_p34 : lw_okq (⟨"ChipfoldModel", "burnsAll", "([I)Z"⟩, 12) := ⟨⟨by decide +kernel, by decide +kernel⟩, List.mem_of_getElem? (i := 1114) (by decide +kernel), List.mem_of_getElem? (i := 1274) (by decide +kernel), List.mem_of_getElem? (i := 1275) (by decide +kernel)⟩
theorem lw_p35 : lw_okq (⟨"ChipfoldModel", "fire", "([I)[I"⟩, 12) := ⟨⟨by decide +kernel, by decide +kernel⟩, List.mem_of_getElem? (i := 1114) (by decide +kernel), List.mem_of_getElem? (i := 1278) (by decide +kernel), List.mem_of_getElem? (i := 1279) (by decide +kernel)⟩
theorem lw_p36 : lw_okq (⟨"ChipfoldModel", "unburnt", "(I[I)I"⟩, 12) := ⟨⟨by decide +kernel, by decide +kernel⟩, List.mem_of_getElem? (i := 1114) (by decide +kernel), List.mem_of_getElem? (i := 1285) (by decide +kernel), List.mem_of_getElem? (i := 1286) (by decide +kernel)⟩
theorem lw_p37 : lw_okq (⟨"ChipfoldModel", "units", "()[I"⟩, 12) := ⟨⟨by decide +kernel, by decide +kernel⟩, List.mem_of_getElem? (i := 1114) (by decide +kernel), List.mem_of_getElem? (i := 1297) (by decide +kernel), List.mem_of_getElem? (i := 1298) (by decide +kernel)⟩
theorem lw_p38 : lw_okq (⟨"ChipfoldModel", "allTrees", "()J"⟩, 12) := ⟨⟨by decide +kernel, by decide +kernel⟩, List.mem_of_getElem? (i := 1114) (by decide +kernel), List.mem_of_getElem? (i := 1309) (by decide +kernel), List.mem_of_getElem? (i := 1310) (by decide +kernel)⟩
theorem lw_p39 : lw_okq (⟨"ChipfoldModel", "rows", "()[[J"⟩, 12) := ⟨⟨by decide +kernel, by decide +kernel⟩, List.mem_of_getElem? (i := 1114) (by decide +kernel), List.mem_of_getElem? (i := 1313) (by decide +kernel), List.mem_of_getElem? (i := 1314) (by decide +kernel)⟩
theorem lw_p40 : lw_okq (⟨"ChipfoldModel", "allFactors", "()Ljava/util/ArrayList;"⟩, 12) := ⟨⟨by decide +kernel, by decide +kernel⟩, List.mem_of_getElem? (i := 1114) (by decide +kernel), List.mem_of_getElem? (i := 1333) (by decide +kernel), List.mem_of_getElem? (i := 1334) (by decide +kernel)⟩
theorem lw_p41 : lw_okq (⟨"java/util/ArrayList", "add", "(Ljava/lang/Object;[Ljava/lang/Object;I)V"⟩, 3) := ⟨⟨by decide +kernel, by decide +kernel⟩, List.mem_of_getElem? (i := 1337) (by decide +kernel), List.mem_of_getElem? (i := 1387) (by decide +kernel), List.mem_of_getElem? (i := 1388) (by decide +kernel)⟩
theorem lw_p42 : lw_okq (⟨"java/util/ArrayList", "grow", "()[Ljava/lang/Object;"⟩, 3) := ⟨⟨by decide +kernel, by decide +kernel⟩, List.mem_of_getElem? (i := 1337) (by decide +kernel), List.mem_of_getElem? (i := 1391) (by decide +kernel), List.mem_of_getElem? (i := 1392) (by decide +kernel)⟩
theorem lw_p43 : lw_okq (⟨"java/util/ArrayList", "grow", "(I)[Ljava/lang/Object;"⟩, 3) := ⟨⟨by decide +kernel, by decide +kernel⟩, List.mem_of_getElem? (i := 1337) (by decide +kernel), List.mem_of_getElem? (i := 1395) (by decide +kernel), List.mem_of_getElem? (i := 1396) (by decide +kernel)⟩
theorem lw_p44 : lw_okq (⟨"ChipfoldModel", "isNothing", "(JJ)Z"⟩, 12) := ⟨⟨by decide +kernel, by decide +kernel⟩, List.mem_of_getElem? (i := 1114) (by decide +kernel), List.mem_of_getElem? (i := 1484) (by decide +kernel), List.mem_of_getElem? (i := 1485) (by decide +kernel)⟩
theorem lw_p45 : lw_okq (⟨"ChipfoldModel", "pointed", "(I)I"⟩, 12) := ⟨⟨by decide +kernel, by decide +kernel⟩, List.mem_of_getElem? (i := 1114) (by decide +kernel), List.mem_of_getElem? (i := 1495) (by decide +kernel), List.mem_of_getElem? (i := 1496) (by decide +kernel)⟩
theorem lw_p46 : lw_okq (⟨"ChipfoldModel", "reducedBy", "([I)[I"⟩, 12) := ⟨⟨by decide +kernel, by decide +kernel⟩, List.mem_of_getElem? (i := 1114) (by decide +kernel), List.mem_of_getElem? (i := 1527) (by decide +kernel), List.mem_of_getElem? (i := 1528) (by decide +kernel)⟩
theorem lw_p47 : lw_okq (⟨"ChipfoldModel", "nothing", "()[I"⟩, 12) := ⟨⟨by decide +kernel, by decide +kernel⟩, List.mem_of_getElem? (i := 1114) (by decide +kernel), List.mem_of_getElem? (i := 1531) (by decide +kernel), List.mem_of_getElem? (i := 1532) (by decide +kernel)⟩
def lw_privs_3 : List (MethodName × Nat) := [(⟨"ChipfoldModel", "settles", "([I[I)I"⟩, 12), (⟨"ChipfoldModel", "plain", "(I)I"⟩, 12), (⟨"ChipfoldModel", "burnsAll", "([I)Z"⟩, 12), (⟨"ChipfoldModel", "fire", "([I)[I"⟩, 12), (⟨"ChipfoldModel", "unburnt", "(I[I)I"⟩, 12), (⟨"ChipfoldModel", "units", "()[I"⟩, 12), (⟨"ChipfoldModel", "allTrees", "()J"⟩, 12), (⟨"ChipfoldModel", "rows", "()[[J"⟩, 12), (⟨"ChipfoldModel", "allFactors", "()Ljava/util/ArrayList;"⟩, 12), (⟨"java/util/ArrayList", "add", "(Ljava/lang/Object;[Ljava/lang/Object;I)V"⟩, 3), (⟨"java/util/ArrayList", "grow", "()[Ljava/lang/Object;"⟩, 3), (⟨"java/util/ArrayList", "grow", "(I)[Ljava/lang/Object;"⟩, 3), (⟨"ChipfoldModel", "isNothing", "(JJ)Z"⟩, 12), (⟨"ChipfoldModel", "pointed", "(I)I"⟩, 12), (⟨"ChipfoldModel", "reducedBy", "([I)[I"⟩, 12), (⟨"ChipfoldModel", "nothing", "()[I"⟩, 12)]
theorem lw_r3 : ∀ q ∈ lw_privs_3, lw_okq q := List.forall_mem_cons.mpr ⟨lw_p32, List.forall_mem_cons.mpr ⟨lw_p33, List.forall_mem_cons.mpr ⟨lw_p34, List.forall_mem_cons.mpr ⟨lw_p35, List.forall_mem_cons.mpr ⟨lw_p36, List.forall_mem_cons.mpr ⟨lw_p37, List.forall_mem_cons.mpr ⟨lw_p38, List.forall_mem_cons.mpr ⟨lw_p39, List.forall_mem_cons.mpr ⟨lw_p40, List.forall_mem_cons.mpr ⟨lw_p41, List.forall_mem_cons.mpr ⟨lw_p42, List.forall_mem_cons.mpr ⟨lw_p43, List.forall_mem_cons.mpr ⟨lw_p44, List.forall_mem_cons.mpr ⟨lw_p45, List.forall_mem_cons.mpr ⟨lw_p46, List.forall_mem_cons.mpr ⟨lw_p47, fun _ h => absurd h List.not_mem_nil⟩⟩⟩⟩⟩⟩⟩⟩⟩⟩⟩⟩⟩⟩⟩⟩
theorem lw_p48 : lw_okq (⟨"ChipfoldModel", "fireOut", "([I)[I"⟩, 12) := ⟨⟨by decide +kernel, by decide +kernel⟩, List.mem_of_getElem? (i := 1114) (by decide +kernel), List.mem_of_getElem? (i := 1536) (by decide +kernel), List.mem_of_getElem? (i := 1537) (by decide +kernel)⟩
theorem lw_p49 : lw_okq (⟨"ChipfoldModel", "canBePaid", "([I)Z"⟩, 12) := ⟨⟨by decide +kernel, by decide +kernel⟩, List.mem_of_getElem? (i := 1114) (by decide +kernel), List.mem_of_getElem? (i := 1544) (by decide +kernel), List.mem_of_getElem? (i := 1545) (by decide +kernel)⟩
theorem lw_p50 : lw_okq (⟨"ChipfoldModel", "canLose", "([III)Z"⟩, 12) := ⟨⟨by decide +kernel, by decide +kernel⟩, List.mem_of_getElem? (i := 1114) (by decide +kernel), List.mem_of_getElem? (i := 1555) (by decide +kernel), List.mem_of_getElem? (i := 1556) (by decide +kernel)⟩
def lw_privs_4 : List (MethodName × Nat) := [(⟨"ChipfoldModel", "fireOut", "([I)[I"⟩, 12), (⟨"ChipfoldModel", "canBePaid", "([I)Z"⟩, 12), (⟨"ChipfoldModel", "canLose", "([III)Z"⟩, 12)]
theorem lw_r4 : ∀ q ∈ lw_privs_4, lw_okq q := List.forall_mem_cons.mpr ⟨lw_p48, List.forall_mem_cons.mpr ⟨lw_p49, List.forall_mem_cons.mpr ⟨lw_p50, fun _ h => absurd h List.not_mem_nil⟩⟩⟩
def lw_privs : List (MethodName × Nat) := lw_privs_1 ++ (lw_privs_2 ++ (lw_privs_3 ++ (lw_privs_4)))
def lw_tbl : List Cond := k2_sels lw_privs ++ tables_1
theorem lw_privs_ok : ∀ q ∈ lw_privs, lw_okq q := by
  show ∀ q ∈ lw_privs_1 ++ (lw_privs_2 ++ (lw_privs_3 ++ (lw_privs_4))), lw_okq q
  exact List.forall_mem_append.mpr ⟨lw_r1, List.forall_mem_append.mpr ⟨lw_r2, List.forall_mem_append.mpr ⟨lw_r3, lw_r4⟩⟩⟩
/-- the streams that the claim lets the run draw from -/
abbrev lw_cs : List Choice := [Jvm.Choice.named "NaN.bits"]
theorem lw_bits : nanBits ∈ lw_cs := by first | decide | exact List.mem_cons_self | simp [lw_cs, nanBits]
end
section
def RX0 : String := "Chipfold$Debts"
def TX0 : u_T := fun k => match k with
  | 0 => ("Chipfold$Debts", "graph", "LChipfold$Graph;", true)
  | 1 => ("Chipfold$Debts", "finder", "LChipfold$Finder;", true)
  | 2 => ("Chipfold$Debts", "owned", "LChipfold$Row;", true)
  | 3 => ("Chipfold$Debts", "rest", "LChipfold$Row;", true)
  | 4 => ("Chipfold$Debts", "missing", "LChipfold$Row;", true)
  | 5 => ("Chipfold$Debts", "losses", "LChipfold$Row;", true)
  | _ => ("Chipfold$Debts", "poorer", "LChipfold$Pile;", true)
def tyX0 : Nat → FieldType := fun k => match k with
  | 0 => .object "Chipfold$Graph"
  | 1 => .object "Chipfold$Finder"
  | 2 => .object "Chipfold$Row"
  | 3 => .object "Chipfold$Row"
  | 4 => .object "Chipfold$Row"
  | 5 => .object "Chipfold$Row"
  | _ => .object "Chipfold$Pile"
theorem nmX0 : ∀ a, a < 7 → ∀ b, b < 7 → a ≠ b → (TX0 a).2.1 ≠ (TX0 b).2.1 := by decide +kernel
theorem tyX0_ok : ∀ k, k < 7 → parseFieldDescriptor (TX0 k).2.2.1 = some (tyX0 k) := by decide +kernel
abbrev cX0_init : ByteArray := prog_2_method_1_code
def yX0_init : MethodName := ⟨RX0, "<init>", "(LChipfold$Graph;LChipfold$Finder;)V"⟩
abbrev cX0_clear : ByteArray := prog_2_method_2_code
def yX0_clear : MethodName := ⟨RX0, "clear", "()V"⟩
abbrev cX0_at : ByteArray := prog_2_method_3_code
def yX0_at : MethodName := ⟨RX0, "at", "(I)I"⟩
abbrev cX0_write : ByteArray := prog_2_method_4_code
def yX0_write : MethodName := ⟨RX0, "write", "(II)V"⟩
abbrev cX0_total : ByteArray := prog_2_method_5_code
def yX0_total : MethodName := ⟨RX0, "total", "()I"⟩
abbrev cX0_afterDeal : ByteArray := prog_2_method_6_code
def yX0_afterDeal : MethodName := ⟨RX0, "afterDeal", "(III)I"⟩
abbrev cX0_reducedAt : ByteArray := prog_2_method_7_code
def yX0_reducedAt : MethodName := ⟨RX0, "reducedAt", "(I)I"⟩
abbrev cX0_findMissing : ByteArray := prog_2_method_8_code
def yX0_findMissing : MethodName := ⟨RX0, "findMissing", "(LChipfold$Row;)V"⟩
abbrev cX0_sinkReduced : ByteArray := prog_2_method_9_code
def yX0_sinkReduced : MethodName := ⟨RX0, "sinkReduced", "(ILChipfold$Pile;)I"⟩
abbrev cX0_canRankBoth : ByteArray := prog_2_method_10_code
def yX0_canRankBoth : MethodName := ⟨RX0, "canRankBoth", "()Z"⟩
abbrev cX0_writeRest : ByteArray := prog_2_method_11_code
def yX0_writeRest : MethodName := ⟨RX0, "writeRest", "()V"⟩
abbrev cX0_rankOf : ByteArray := prog_2_method_12_code
def yX0_rankOf : MethodName := ⟨RX0, "rankOf", "(Z)I"⟩
abbrev cX0_rankWithLosses : ByteArray := prog_2_method_13_code
def yX0_rankWithLosses : MethodName := ⟨RX0, "rankWithLosses", "(III)I"⟩
abbrev cX0_nextLosses : ByteArray := prog_2_method_14_code
def yX0_nextLosses : MethodName := ⟨RX0, "nextLosses", "()Z"⟩
def RX1 : String := "Chipfold$Drawing"
def TX1 : u_T := fun k => match k with
  | 0 => ("Chipfold$Drawing", "cells", "LChipfold$Row;", true)
  | _ => ("Chipfold$Drawing", "width", "I", false)
def tyX1 : Nat → FieldType := fun k => match k with
  | 0 => .object "Chipfold$Row"
  | _ => .int
theorem nmX1 : ∀ a, a < 2 → ∀ b, b < 2 → a ≠ b → (TX1 a).2.1 ≠ (TX1 b).2.1 := by decide +kernel
theorem tyX1_ok : ∀ k, k < 2 → parseFieldDescriptor (TX1 k).2.2.1 = some (tyX1 k) := by decide +kernel
abbrev cX1_init : ByteArray := prog_3_method_1_code
def yX1_init : MethodName := ⟨RX1, "<init>", "()V"⟩
abbrev cX1_cellNumber : ByteArray := prog_3_method_2_code
def yX1_cellNumber : MethodName := ⟨RX1, "cellNumber", "()I"⟩
abbrev cX1_at : ByteArray := prog_3_method_3_code
def yX1_at : MethodName := ⟨RX1, "at", "(I)I"⟩
abbrev cX1_draw : ByteArray := prog_3_method_4_code
def yX1_draw : MethodName := ⟨RX1, "draw", "(II)I"⟩
abbrev cX1_toppleCell : ByteArray := prog_3_method_5_code
def yX1_toppleCell : MethodName := ⟨RX1, "toppleCell", "(I)I"⟩
def RX2 : String := "Chipfold$Finder"
def TX2 : u_T := fun k => match k with
  | 0 => ("Chipfold$Finder", "graph", "LChipfold$Graph;", true)
  | 1 => ("Chipfold$Finder", "found", "LChipfold$Pile;", true)
  | 2 => ("Chipfold$Finder", "degreesSettled", "LChipfold$Pile;", true)
  | _ => ("Chipfold$Finder", "zeros", "LChipfold$Row;", true)
def tyX2 : Nat → FieldType := fun k => match k with
  | 0 => .object "Chipfold$Graph"
  | 1 => .object "Chipfold$Pile"
  | 2 => .object "Chipfold$Pile"
  | _ => .object "Chipfold$Row"
theorem nmX2 : ∀ a, a < 4 → ∀ b, b < 4 → a ≠ b → (TX2 a).2.1 ≠ (TX2 b).2.1 := by decide +kernel
theorem tyX2_ok : ∀ k, k < 4 → parseFieldDescriptor (TX2 k).2.2.1 = some (tyX2 k) := by decide +kernel
abbrev cX2_init : ByteArray := prog_4_method_1_code
def yX2_init : MethodName := ⟨RX2, "<init>", "(LChipfold$Graph;)V"⟩
abbrev cX2_at : ByteArray := prog_4_method_2_code
def yX2_at : MethodName := ⟨RX2, "at", "(I)I"⟩
abbrev cX2_pileFound : ByteArray := prog_4_method_3_code
def yX2_pileFound : MethodName := ⟨RX2, "pileFound", "()LChipfold$Pile;"⟩
abbrev cX2_findUnit : ByteArray := prog_4_method_4_code
def yX2_findUnit : MethodName := ⟨RX2, "findUnit", "()V"⟩
abbrev cX2_find : ByteArray := prog_4_method_5_code
def yX2_find : MethodName := ⟨RX2, "find", "(LChipfold$Row;)V"⟩
def RX3 : String := "Chipfold$Graph"
def TX3 : u_T := fun k => match k with
  | 0 => ("Chipfold$Graph", "joined", "[I", true)
  | 1 => ("Chipfold$Graph", "degrees", "[I", true)
  | 2 => ("Chipfold$Graph", "vertices", "I", false)
  | _ => ("Chipfold$Graph", "sinkNow", "I", false)
def tyX3 : Nat → FieldType := fun k => match k with
  | 0 => .array .int
  | 1 => .array .int
  | 2 => .int
  | _ => .int
theorem nmX3 : ∀ a, a < 4 → ∀ b, b < 4 → a ≠ b → (TX3 a).2.1 ≠ (TX3 b).2.1 := by decide +kernel
theorem tyX3_ok : ∀ k, k < 4 → parseFieldDescriptor (TX3 k).2.2.1 = some (tyX3 k) := by decide +kernel
abbrev cX3_init : ByteArray := prog_5_method_1_code
def yX3_init : MethodName := ⟨RX3, "<init>", "()V"⟩
abbrev cX3_size : ByteArray := prog_5_method_2_code
def yX3_size : MethodName := ⟨RX3, "size", "()I"⟩
abbrev cX3_has : ByteArray := prog_5_method_3_code
def yX3_has : MethodName := ⟨RX3, "has", "(I)Z"⟩
abbrev cX3_grow : ByteArray := prog_5_method_4_code
def yX3_grow : MethodName := ⟨RX3, "grow", "()I"⟩
abbrev cX3_between : ByteArray := prog_5_method_5_code
def yX3_between : MethodName := ⟨RX3, "between", "(II)I"⟩
abbrev cX3_join : ByteArray := prog_5_method_6_code
def yX3_join : MethodName := ⟨RX3, "join", "(III)V"⟩
abbrev cX3_joinOneWay : ByteArray := prog_5_method_7_code
def yX3_joinOneWay : MethodName := ⟨RX3, "joinOneWay", "(III)V"⟩
abbrev cX3_sinkVertex : ByteArray := prog_5_method_8_code
def yX3_sinkVertex : MethodName := ⟨RX3, "sinkVertex", "()I"⟩
abbrev cX3_isSink : ByteArray := prog_5_method_9_code
def yX3_isSink : MethodName := ⟨RX3, "isSink", "(I)Z"⟩
abbrev cX3_moveSink : ByteArray := prog_5_method_10_code
def yX3_moveSink : MethodName := ⟨RX3, "moveSink", "(I)V"⟩
abbrev cX3_degreeOf : ByteArray := prog_5_method_11_code
def yX3_degreeOf : MethodName := ⟨RX3, "degreeOf", "(I)I"⟩
abbrev cX3_edgeNumber : ByteArray := prog_5_method_12_code
def yX3_edgeNumber : MethodName := ⟨RX3, "edgeNumber", "()I"⟩
abbrev cX3_others : ByteArray := prog_5_method_13_code
def yX3_others : MethodName := ⟨RX3, "others", "()I"⟩
abbrev cX3_otherAt : ByteArray := prog_5_method_14_code
def yX3_otherAt : MethodName := ⟨RX3, "otherAt", "(I)I"⟩
abbrev cX3_isConnected : ByteArray := prog_5_method_15_code
def yX3_isConnected : MethodName := ⟨RX3, "isConnected", "()Z"⟩
abbrev cX3_neighboursOf : ByteArray := prog_5_method_16_code
def yX3_neighboursOf : MethodName := ⟨RX3, "neighboursOf", "(I)I"⟩
abbrev cX3_endOf : ByteArray := prog_5_method_17_code
def yX3_endOf : MethodName := ⟨RX3, "endOf", "(II)I"⟩
def RX4 : String := "Chipfold$Group"
def TX4 : u_T := fun k => match k with
  | 0 => ("Chipfold$Group", "graph", "LChipfold$Graph;", true)
  | 1 => ("Chipfold$Group", "matrix", "LChipfold$Matrix;", true)
  | _ => ("Chipfold$Group", "found", "LChipfold$Row;", true)
def tyX4 : Nat → FieldType := fun k => match k with
  | 0 => .object "Chipfold$Graph"
  | 1 => .object "Chipfold$Matrix"
  | _ => .object "Chipfold$Row"
theorem nmX4 : ∀ a, a < 3 → ∀ b, b < 3 → a ≠ b → (TX4 a).2.1 ≠ (TX4 b).2.1 := by decide +kernel
theorem tyX4_ok : ∀ k, k < 3 → parseFieldDescriptor (TX4 k).2.2.1 = some (tyX4 k) := by decide +kernel
abbrev cX4_init : ByteArray := prog_6_method_1_code
def yX4_init : MethodName := ⟨RX4, "<init>", "(LChipfold$Graph;)V"⟩
abbrev cX4_entry : ByteArray := prog_6_method_2_code
def yX4_entry : MethodName := ⟨RX4, "entry", "(II)I"⟩
abbrev cX4_minor : ByteArray := prog_6_method_3_code
def yX4_minor : MethodName := ⟨RX4, "minor", "(II)J"⟩
abbrev cX4_treeNumber : ByteArray := prog_6_method_4_code
def yX4_treeNumber : MethodName := ⟨RX4, "treeNumber", "()J"⟩
abbrev cX4_findFactors : ByteArray := prog_6_method_5_code
def yX4_findFactors : MethodName := ⟨RX4, "findFactors", "()I"⟩
abbrev cX4_factorFound : ByteArray := prog_6_method_6_code
def yX4_factorFound : MethodName := ⟨RX4, "factorFound", "(I)I"⟩
abbrev cX4_divisorOfMinors : ByteArray := prog_6_method_7_code
def yX4_divisorOfMinors : MethodName := ⟨RX4, "divisorOfMinors", "(I)J"⟩
abbrev cX4_orderOf : ByteArray := prog_6_method_8_code
def yX4_orderOf : MethodName := ⟨RX4, "orderOf", "(LChipfold$Pile;)J"⟩
abbrev cX4_determinantWith : ByteArray := prog_6_method_9_code
def yX4_determinantWith : MethodName := ⟨RX4, "determinantWith", "(LChipfold$Pile;I)J"⟩
abbrev cX4_commonDivisor : ByteArray := prog_6_method_10_code
def yX4_commonDivisor : MethodName := ⟨RX4, "commonDivisor", "(JJ)J"⟩
def RX5 : String := "Chipfold$Matrix"
def TX5 : u_T := fun k => match k with
  | _ => ("Chipfold$Matrix", "cells", "[J", true)
def tyX5 : Nat → FieldType := fun k => match k with
  | _ => .array .long
theorem nmX5 : ∀ a, a < 1 → ∀ b, b < 1 → a ≠ b → (TX5 a).2.1 ≠ (TX5 b).2.1 := by decide +kernel
theorem tyX5_ok : ∀ k, k < 1 → parseFieldDescriptor (TX5 k).2.2.1 = some (tyX5 k) := by decide +kernel
abbrev cX5_init : ByteArray := prog_7_method_1_code
def yX5_init : MethodName := ⟨RX5, "<init>", "()V"⟩
abbrev cX5_at : ByteArray := prog_7_method_2_code
def yX5_at : MethodName := ⟨RX5, "at", "(II)J"⟩
abbrev cX5_write : ByteArray := prog_7_method_3_code
def yX5_write : MethodName := ⟨RX5, "write", "(IIJ)V"⟩
abbrev cX5_determinant : ByteArray := prog_7_method_4_code
def yX5_determinant : MethodName := ⟨RX5, "determinant", "(I)J"⟩
abbrev cX5_pivotRow : ByteArray := prog_7_method_5_code
def yX5_pivotRow : MethodName := ⟨RX5, "pivotRow", "(II)I"⟩
abbrev cX5_swapRows : ByteArray := prog_7_method_6_code
def yX5_swapRows : MethodName := ⟨RX5, "swapRows", "(III)V"⟩
abbrev cX5_clearBelow : ByteArray := prog_7_method_7_code
def yX5_clearBelow : MethodName := ⟨RX5, "clearBelow", "(IIJ)V"⟩
def RX6 : String := "Chipfold$Pile"
def TX6 : u_T := fun k => match k with
  | 0 => ("Chipfold$Pile", "graph", "LChipfold$Graph;", true)
  | 1 => ("Chipfold$Pile", "held", "LChipfold$Row;", true)
  | 2 => ("Chipfold$Pile", "counts", "LChipfold$Row;", true)
  | _ => ("Chipfold$Pile", "taken", "I", false)
def tyX6 : Nat → FieldType := fun k => match k with
  | 0 => .object "Chipfold$Graph"
  | 1 => .object "Chipfold$Row"
  | 2 => .object "Chipfold$Row"
  | _ => .int
theorem nmX6 : ∀ a, a < 4 → ∀ b, b < 4 → a ≠ b → (TX6 a).2.1 ≠ (TX6 b).2.1 := by decide +kernel
theorem tyX6_ok : ∀ k, k < 4 → parseFieldDescriptor (TX6 k).2.2.1 = some (tyX6 k) := by decide +kernel
abbrev cX6_init : ByteArray := prog_8_method_1_code
def yX6_init : MethodName := ⟨RX6, "<init>", "(LChipfold$Graph;)V"⟩
abbrev cX6_clear : ByteArray := prog_8_method_2_code
def yX6_clear : MethodName := ⟨RX6, "clear", "()V"⟩
abbrev cX6_copyChips : ByteArray := prog_8_method_3_code
def yX6_copyChips : MethodName := ⟨RX6, "copyChips", "(LChipfold$Pile;)V"⟩
abbrev cX6_isLike : ByteArray := prog_8_method_4_code
def yX6_isLike : MethodName := ⟨RX6, "isLike", "(LChipfold$Pile;)Z"⟩
abbrev cX6_at : ByteArray := prog_8_method_5_code
def yX6_at : MethodName := ⟨RX6, "at", "(I)I"⟩
abbrev cX6_countAt : ByteArray := prog_8_method_6_code
def yX6_countAt : MethodName := ⟨RX6, "countAt", "(I)I"⟩
abbrev cX6_swallowedChips : ByteArray := prog_8_method_7_code
def yX6_swallowedChips : MethodName := ⟨RX6, "swallowedChips", "()I"⟩
abbrev cX6_total : ByteArray := prog_8_method_8_code
def yX6_total : MethodName := ⟨RX6, "total", "()I"⟩
abbrev cX6_receive : ByteArray := prog_8_method_9_code
def yX6_receive : MethodName := ⟨RX6, "receive", "(II)V"⟩
abbrev cX6_canTopple : ByteArray := prog_8_method_10_code
def yX6_canTopple : MethodName := ⟨RX6, "canTopple", "(I)Z"⟩
abbrev cX6_isSettled : ByteArray := prog_8_method_11_code
def yX6_isSettled : MethodName := ⟨RX6, "isSettled", "()Z"⟩
abbrev cX6_toppleTimes : ByteArray := prog_8_method_12_code
def yX6_toppleTimes : MethodName := ⟨RX6, "toppleTimes", "(II)V"⟩
abbrev cX6_settleAll : ByteArray := prog_8_method_13_code
def yX6_settleAll : MethodName := ⟨RX6, "settleAll", "(Z)I"⟩
abbrev cX6_toppleWave : ByteArray := prog_8_method_14_code
def yX6_toppleWave : MethodName := ⟨RX6, "toppleWave", "()Z"⟩
abbrev cX6_burn : ByteArray := prog_8_method_15_code
def yX6_burn : MethodName := ⟨RX6, "burn", "(LChipfold$Row;)V"⟩
abbrev cX6_unburntEdges : ByteArray := prog_8_method_16_code
def yX6_unburntEdges : MethodName := ⟨RX6, "unburntEdges", "(ILChipfold$Row;)I"⟩
def RX7 : String := "Chipfold$Rotors"
def TX7 : u_T := fun k => match k with
  | 0 => ("Chipfold$Rotors", "graph", "LChipfold$Graph;", true)
  | 1 => ("Chipfold$Rotors", "pointed", "LChipfold$Row;", true)
  | _ => ("Chipfold$Rotors", "visited", "LChipfold$Row;", true)
def tyX7 : Nat → FieldType := fun k => match k with
  | 0 => .object "Chipfold$Graph"
  | 1 => .object "Chipfold$Row"
  | _ => .object "Chipfold$Row"
theorem nmX7 : ∀ a, a < 3 → ∀ b, b < 3 → a ≠ b → (TX7 a).2.1 ≠ (TX7 b).2.1 := by decide +kernel
theorem tyX7_ok : ∀ k, k < 3 → parseFieldDescriptor (TX7 k).2.2.1 = some (tyX7 k) := by decide +kernel
abbrev cX7_init : ByteArray := prog_9_method_1_code
def yX7_init : MethodName := ⟨RX7, "<init>", "(LChipfold$Graph;)V"⟩
abbrev cX7_clear : ByteArray := prog_9_method_2_code
def yX7_clear : MethodName := ⟨RX7, "clear", "()V"⟩
abbrev cX7_target : ByteArray := prog_9_method_3_code
def yX7_target : MethodName := ⟨RX7, "target", "(I)I"⟩
abbrev cX7_visitsAt : ByteArray := prog_9_method_4_code
def yX7_visitsAt : MethodName := ⟨RX7, "visitsAt", "(I)I"⟩
abbrev cX7_lead : ByteArray := prog_9_method_5_code
def yX7_lead : MethodName := ⟨RX7, "lead", "(I)I"⟩
abbrev cX7_turn : ByteArray := prog_9_method_6_code
def yX7_turn : MethodName := ⟨RX7, "turn", "(I)V"⟩
abbrev cX7_leadToSink : ByteArray := prog_9_method_7_code
def yX7_leadToSink : MethodName := ⟨RX7, "leadToSink", "()Z"⟩
def RX8 : String := "Chipfold$Row"
def TX8 : u_T := fun k => match k with
  | _ => ("Chipfold$Row", "cells", "[I", true)
def tyX8 : Nat → FieldType := fun k => match k with
  | _ => .array .int
theorem nmX8 : ∀ a, a < 1 → ∀ b, b < 1 → a ≠ b → (TX8 a).2.1 ≠ (TX8 b).2.1 := by decide +kernel
theorem tyX8_ok : ∀ k, k < 1 → parseFieldDescriptor (TX8 k).2.2.1 = some (tyX8 k) := by decide +kernel
abbrev cX8_init : ByteArray := prog_10_method_1_code
def yX8_init : MethodName := ⟨RX8, "<init>", "(I)V"⟩
abbrev cX8_at : ByteArray := prog_10_method_2_code
def yX8_at : MethodName := ⟨RX8, "at", "(I)I"⟩
abbrev cX8_write : ByteArray := prog_10_method_3_code
def yX8_write : MethodName := ⟨RX8, "write", "(II)V"⟩
abbrev cX8_add : ByteArray := prog_10_method_4_code
def yX8_add : MethodName := ⟨RX8, "add", "(II)V"⟩
abbrev cX8_fill : ByteArray := prog_10_method_5_code
def yX8_fill : MethodName := ⟨RX8, "fill", "(I)V"⟩
abbrev cX8_copy : ByteArray := prog_10_method_6_code
def yX8_copy : MethodName := ⟨RX8, "copy", "(LChipfold$Row;)V"⟩
abbrev cX8_isLike : ByteArray := prog_10_method_7_code
def yX8_isLike : MethodName := ⟨RX8, "isLike", "(LChipfold$Row;)Z"⟩
abbrev cX8_sum : ByteArray := prog_10_method_8_code
def yX8_sum : MethodName := ⟨RX8, "sum", "()I"⟩
def RX9 : String := "Chipfold$TreeCount"
def TX9 : u_T := fun k => match k with
  | _ => ("Chipfold$TreeCount", "squares", "LChipfold$Row;", true)
def tyX9 : Nat → FieldType := fun k => match k with
  | _ => .object "Chipfold$Row"
theorem nmX9 : ∀ a, a < 1 → ∀ b, b < 1 → a ≠ b → (TX9 a).2.1 ≠ (TX9 b).2.1 := by decide +kernel
theorem tyX9_ok : ∀ k, k < 1 → parseFieldDescriptor (TX9 k).2.2.1 = some (tyX9 k) := by decide +kernel
abbrev cX9_init : ByteArray := prog_11_method_1_code
def yX9_init : MethodName := ⟨RX9, "<init>", "()V"⟩
abbrev cX9_countTrees : ByteArray := prog_11_method_2_code
def yX9_countTrees : MethodName := ⟨RX9, "countTrees", "(LChipfold$Graph;)J"⟩
abbrev cX9_cell : ByteArray := prog_11_method_3_code
def yX9_cell : MethodName := ⟨RX9, "cell", "(III)I"⟩
abbrev cX9_countLeft : ByteArray := prog_11_method_4_code
def yX9_countLeft : MethodName := ⟨RX9, "countLeft", "(LChipfold$Row;I)J"⟩
abbrev cX9_merge : ByteArray := prog_11_method_5_code
def yX9_merge : MethodName := ⟨RX9, "merge", "(LChipfold$Row;II)V"⟩
def RX10 : String := "Chipfold"
def TX10 : u_T := fun k => match k with
  | 0 => ("Chipfold", "graph", "LChipfold$Graph;", true)
  | 1 => ("Chipfold", "pile", "LChipfold$Pile;", true)
  | 2 => ("Chipfold", "trial", "LChipfold$Pile;", true)
  | 3 => ("Chipfold", "secondTrial", "LChipfold$Pile;", true)
  | 4 => ("Chipfold", "fire", "LChipfold$Row;", true)
  | 5 => ("Chipfold", "finder", "LChipfold$Finder;", true)
  | 6 => ("Chipfold", "group", "LChipfold$Group;", true)
  | 7 => ("Chipfold", "treeCount", "LChipfold$TreeCount;", true)
  | 8 => ("Chipfold", "rotors", "LChipfold$Rotors;", true)
  | 9 => ("Chipfold", "debts", "LChipfold$Debts;", true)
  | _ => ("Chipfold", "drawing", "LChipfold$Drawing;", true)
def tyX10 : Nat → FieldType := fun k => match k with
  | 0 => .object "Chipfold$Graph"
  | 1 => .object "Chipfold$Pile"
  | 2 => .object "Chipfold$Pile"
  | 3 => .object "Chipfold$Pile"
  | 4 => .object "Chipfold$Row"
  | 5 => .object "Chipfold$Finder"
  | 6 => .object "Chipfold$Group"
  | 7 => .object "Chipfold$TreeCount"
  | 8 => .object "Chipfold$Rotors"
  | 9 => .object "Chipfold$Debts"
  | _ => .object "Chipfold$Drawing"
theorem nmX10 : ∀ a, a < 11 → ∀ b, b < 11 → a ≠ b → (TX10 a).2.1 ≠ (TX10 b).2.1 := by decide +kernel
theorem tyX10_ok : ∀ k, k < 11 → parseFieldDescriptor (TX10 k).2.2.1 = some (tyX10 k) := by decide +kernel
abbrev cX10_init : ByteArray := prog_1_method_1_code
def yX10_init : MethodName := ⟨RX10, "<init>", "()V"⟩
abbrev cX10_vertex : ByteArray := prog_1_method_2_code
def yX10_vertex : MethodName := ⟨RX10, "vertex", "()I"⟩
abbrev cX10_edges : ByteArray := prog_1_method_3_code
def yX10_edges : MethodName := ⟨RX10, "edges", "(III)I"⟩
abbrev cX10_setSink : ByteArray := prog_1_method_4_code
def yX10_setSink : MethodName := ⟨RX10, "setSink", "(I)I"⟩
abbrev cX10_degree : ByteArray := prog_1_method_5_code
def yX10_degree : MethodName := ⟨RX10, "degree", "(I)I"⟩
abbrev cX10_isWhole : ByteArray := prog_1_method_6_code
def yX10_isWhole : MethodName := ⟨RX10, "isWhole", "()Z"⟩
abbrev cX10_put : ByteArray := prog_1_method_7_code
def yX10_put : MethodName := ⟨RX10, "put", "(II)I"⟩
abbrev cX10_chips : ByteArray := prog_1_method_8_code
def yX10_chips : MethodName := ⟨RX10, "chips", "(I)I"⟩
abbrev cX10_topple : ByteArray := prog_1_method_9_code
def yX10_topple : MethodName := ⟨RX10, "topple", "(I)I"⟩
abbrev cX10_settle : ByteArray := prog_1_method_10_code
def yX10_settle : MethodName := ⟨RX10, "settle", "()I"⟩
abbrev cX10_waves : ByteArray := prog_1_method_11_code
def yX10_waves : MethodName := ⟨RX10, "waves", "()I"⟩
abbrev cX10_count : ByteArray := prog_1_method_12_code
def yX10_count : MethodName := ⟨RX10, "count", "(I)I"⟩
abbrev cX10_swallowed : ByteArray := prog_1_method_13_code
def yX10_swallowed : MethodName := ⟨RX10, "swallowed", "()I"⟩
abbrev cX10_isAgain : ByteArray := prog_1_method_14_code
def yX10_isAgain : MethodName := ⟨RX10, "isAgain", "()Z"⟩
abbrev cX10_burns : ByteArray := prog_1_method_15_code
def yX10_burns : MethodName := ⟨RX10, "burns", "(I)I"⟩
abbrev cX10_unit : ByteArray := prog_1_method_16_code
def yX10_unit : MethodName := ⟨RX10, "unit", "(I)I"⟩
abbrev cX10_square : ByteArray := prog_1_method_17_code
def yX10_square : MethodName := ⟨RX10, "square", "()I"⟩
abbrev cX10_trees : ByteArray := prog_1_method_18_code
def yX10_trees : MethodName := ⟨RX10, "trees", "()J"⟩
abbrev cX10_factors : ByteArray := prog_1_method_19_code
def yX10_factors : MethodName := ⟨RX10, "factors", "()I"⟩
abbrev cX10_factorAt : ByteArray := prog_1_method_20_code
def yX10_factorAt : MethodName := ⟨RX10, "factorAt", "(I)J"⟩
abbrev cX10_order : ByteArray := prog_1_method_21_code
def yX10_order : MethodName := ⟨RX10, "order", "()J"⟩
abbrev cX10_walk : ByteArray := prog_1_method_22_code
def yX10_walk : MethodName := ⟨RX10, "walk", "(I)I"⟩
abbrev cX10_rotor : ByteArray := prog_1_method_23_code
def yX10_rotor : MethodName := ⟨RX10, "rotor", "(I)I"⟩
abbrev cX10_visits : ByteArray := prog_1_method_24_code
def yX10_visits : MethodName := ⟨RX10, "visits", "(I)I"⟩
abbrev cX10_areTree : ByteArray := prog_1_method_25_code
def yX10_areTree : MethodName := ⟨RX10, "areTree", "()Z"⟩
abbrev cX10_setDebt : ByteArray := prog_1_method_26_code
def yX10_setDebt : MethodName := ⟨RX10, "setDebt", "(II)I"⟩
abbrev cX10_deal : ByteArray := prog_1_method_27_code
def yX10_deal : MethodName := ⟨RX10, "deal", "(IZ)I"⟩
abbrev cX10_debt : ByteArray := prog_1_method_28_code
def yX10_debt : MethodName := ⟨RX10, "debt", "(I)I"⟩
abbrev cX10_reduced : ByteArray := prog_1_method_29_code
def yX10_reduced : MethodName := ⟨RX10, "reduced", "(I)I"⟩
abbrev cX10_canPay : ByteArray := prog_1_method_30_code
def yX10_canPay : MethodName := ⟨RX10, "canPay", "()Z"⟩
abbrev cX10_rank : ByteArray := prog_1_method_31_code
def yX10_rank : MethodName := ⟨RX10, "rank", "()I"⟩
abbrev cX10_picture : ByteArray := prog_1_method_32_code
def yX10_picture : MethodName := ⟨RX10, "picture", "(II)I"⟩
abbrev cX10_pixel : ByteArray := prog_1_method_33_code
def yX10_pixel : MethodName := ⟨RX10, "pixel", "(I)I"⟩
abbrev cX10_settledShare : ByteArray := prog_1_method_34_code
def yX10_settledShare : MethodName := ⟨RX10, "settledShare", "()F"⟩
abbrev cX10_meanChips : ByteArray := prog_1_method_35_code
def yX10_meanChips : MethodName := ⟨RX10, "meanChips", "()D"⟩
abbrev cX10_isSound : ByteArray := prog_1_method_36_code
def yX10_isSound : MethodName := ⟨RX10, "isSound", "()Z"⟩
abbrev cX10_settlesAlikeFromAbove : ByteArray := prog_1_method_37_code
def yX10_settlesAlikeFromAbove : MethodName := ⟨RX10, "settlesAlikeFromAbove", "()Z"⟩
abbrev cX10_beginAgain : ByteArray := prog_1_method_38_code
def yX10_beginAgain : MethodName := ⟨RX10, "beginAgain", "()V"⟩
abbrev cX10_needVertex : ByteArray := prog_1_method_39_code
def yX10_needVertex : MethodName := ⟨RX10, "needVertex", "(I)V"⟩
abbrev cX10_needWhole : ByteArray := prog_1_method_40_code
def yX10_needWhole : MethodName := ⟨RX10, "needWhole", "()V"⟩
def RX11 : String := "ChipfoldModel"
def TX11 : u_T := fun k => match k with
  | 0 => ("ChipfoldModel", "edges", "[[I", true)
  | 1 => ("ChipfoldModel", "chips", "[I", false)
  | 2 => ("ChipfoldModel", "counts", "[I", false)
  | 3 => ("ChipfoldModel", "rotors", "[I", false)
  | 4 => ("ChipfoldModel", "visits", "[I", false)
  | 5 => ("ChipfoldModel", "debts", "[I", false)
  | 6 => ("ChipfoldModel", "cells", "[I", false)
  | 7 => ("ChipfoldModel", "size", "I", false)
  | 8 => ("ChipfoldModel", "sink", "I", false)
  | 9 => ("ChipfoldModel", "swallowed", "I", false)
  | 10 => ("ChipfoldModel", "side", "I", false)
  | _ => ("ChipfoldModel", "thrown", "I", false)
def tyX11 : Nat → FieldType := fun k => match k with
  | 0 => .array (.array .int)
  | 1 => .array .int
  | 2 => .array .int
  | 3 => .array .int
  | 4 => .array .int
  | 5 => .array .int
  | 6 => .array .int
  | 7 => .int
  | 8 => .int
  | 9 => .int
  | 10 => .int
  | _ => .int
theorem nmX11 : ∀ a, a < 12 → ∀ b, b < 12 → a ≠ b → (TX11 a).2.1 ≠ (TX11 b).2.1 := by decide +kernel
theorem tyX11_ok : ∀ k, k < 12 → parseFieldDescriptor (TX11 k).2.2.1 = some (tyX11 k) := by decide +kernel
abbrev cX11_init : ByteArray := prog_13_method_1_code
def yX11_init : MethodName := ⟨RX11, "<init>", "()V"⟩
abbrev cX11_thrown : ByteArray := prog_13_method_2_code
def yX11_thrown : MethodName := ⟨RX11, "thrown", "()I"⟩
abbrev cX11_in : ByteArray := prog_13_method_3_code
def yX11_in : MethodName := ⟨RX11, "in", "(III)Z"⟩
abbrev cX11_isVertex : ByteArray := prog_13_method_4_code
def yX11_isVertex : MethodName := ⟨RX11, "isVertex", "(I)Z"⟩
abbrev cX11_wrongVertex : ByteArray := prog_13_method_5_code
def yX11_wrongVertex : MethodName := ⟨RX11, "wrongVertex", "(I)I"⟩
abbrev cX11_plain : ByteArray := prog_13_method_6_code
def yX11_plain : MethodName := ⟨RX11, "plain", "(I)I"⟩
abbrev cX11_begin : ByteArray := prog_13_method_7_code
def yX11_begin : MethodName := ⟨RX11, "begin", "()V"⟩
abbrev cX11_vertex : ByteArray := prog_13_method_8_code
def yX11_vertex : MethodName := ⟨RX11, "vertex", "()I"⟩
abbrev cX11_edges : ByteArray := prog_13_method_9_code
def yX11_edges : MethodName := ⟨RX11, "edges", "(III)I"⟩
abbrev cX11_setSink : ByteArray := prog_13_method_10_code
def yX11_setSink : MethodName := ⟨RX11, "setSink", "(I)I"⟩
abbrev cX11_degreeOf : ByteArray := prog_13_method_11_code
def yX11_degreeOf : MethodName := ⟨RX11, "degreeOf", "(I)I"⟩
abbrev cX11_degree : ByteArray := prog_13_method_12_code
def yX11_degree : MethodName := ⟨RX11, "degree", "(I)I"⟩
abbrev cX11_reach : ByteArray := prog_13_method_13_code
def yX11_reach : MethodName := ⟨RX11, "reach", "(I[Z)V"⟩
abbrev cX11_whole : ByteArray := prog_13_method_14_code
def yX11_whole : MethodName := ⟨RX11, "whole", "()Z"⟩
abbrev cX11_isWhole : ByteArray := prog_13_method_15_code
def yX11_isWhole : MethodName := ⟨RX11, "isWhole", "()Z"⟩
abbrev cX11_wrongWhole : ByteArray := prog_13_method_16_code
def yX11_wrongWhole : MethodName := ⟨RX11, "wrongWhole", "()I"⟩
abbrev cX11_put : ByteArray := prog_13_method_17_code
def yX11_put : MethodName := ⟨RX11, "put", "(II)I"⟩
abbrev cX11_chips : ByteArray := prog_13_method_18_code
def yX11_chips : MethodName := ⟨RX11, "chips", "(I)I"⟩
abbrev cX11_can : ByteArray := prog_13_method_19_code
def yX11_can : MethodName := ⟨RX11, "can", "([II)Z"⟩
abbrev cX11_topples : ByteArray := prog_13_method_20_code
def yX11_topples : MethodName := ⟨RX11, "topples", "([III)V"⟩
abbrev cX11_settles : ByteArray := prog_13_method_21_code
def yX11_settles : MethodName := ⟨RX11, "settles", "([I[I)I"⟩
abbrev cX11_swallow : ByteArray := prog_13_method_22_code
def yX11_swallow : MethodName := ⟨RX11, "swallow", "()V"⟩
abbrev cX11_topple : ByteArray := prog_13_method_23_code
def yX11_topple : MethodName := ⟨RX11, "topple", "(I)I"⟩
abbrev cX11_settle : ByteArray := prog_13_method_24_code
def yX11_settle : MethodName := ⟨RX11, "settle", "()I"⟩
abbrev cX11_waves : ByteArray := prog_13_method_25_code
def yX11_waves : MethodName := ⟨RX11, "waves", "()I"⟩
abbrev cX11_count : ByteArray := prog_13_method_26_code
def yX11_count : MethodName := ⟨RX11, "count", "(I)I"⟩
abbrev cX11_swallowed : ByteArray := prog_13_method_27_code
def yX11_swallowed : MethodName := ⟨RX11, "swallowed", "()I"⟩
abbrev cX11_fire : ByteArray := prog_13_method_28_code
def yX11_fire : MethodName := ⟨RX11, "fire", "([I)[I"⟩
abbrev cX11_unburnt : ByteArray := prog_13_method_29_code
def yX11_unburnt : MethodName := ⟨RX11, "unburnt", "(I[I)I"⟩
abbrev cX11_burnsAll : ByteArray := prog_13_method_30_code
def yX11_burnsAll : MethodName := ⟨RX11, "burnsAll", "([I)Z"⟩
abbrev cX11_isAgain : ByteArray := prog_13_method_31_code
def yX11_isAgain : MethodName := ⟨RX11, "isAgain", "()Z"⟩
abbrev cX11_burns : ByteArray := prog_13_method_32_code
def yX11_burns : MethodName := ⟨RX11, "burns", "(I)I"⟩
abbrev cX11_nothing : ByteArray := prog_13_method_33_code
def yX11_nothing : MethodName := ⟨RX11, "nothing", "()[I"⟩
abbrev cX11_units : ByteArray := prog_13_method_34_code
def yX11_units : MethodName := ⟨RX11, "units", "()[I"⟩
abbrev cX11_unit : ByteArray := prog_13_method_35_code
def yX11_unit : MethodName := ⟨RX11, "unit", "(I)I"⟩
abbrev cX11_square : ByteArray := prog_13_method_36_code
def yX11_square : MethodName := ⟨RX11, "square", "()I"⟩
abbrev cX11_rows : ByteArray := prog_13_method_37_code
def yX11_rows : MethodName := ⟨RX11, "rows", "()[[J"⟩
abbrev cX11_middle : ByteArray := prog_13_method_38_code
def yX11_middle : MethodName := ⟨RX11, "middle", "([[J)[J"⟩
abbrev cX11_isClear : ByteArray := prog_13_method_39_code
def yX11_isClear : MethodName := ⟨RX11, "isClear", "([[JI)Z"⟩
abbrev cX11_step : ByteArray := prog_13_method_40_code
def yX11_step : MethodName := ⟨RX11, "step", "([[JI)V"⟩
abbrev cX11_allTrees : ByteArray := prog_13_method_41_code
def yX11_allTrees : MethodName := ⟨RX11, "allTrees", "()J"⟩
abbrev cX11_trees : ByteArray := prog_13_method_42_code
def yX11_trees : MethodName := ⟨RX11, "trees", "()J"⟩
abbrev cX11_allFactors : ByteArray := prog_13_method_43_code
def yX11_allFactors : MethodName := ⟨RX11, "allFactors", "()Ljava/util/ArrayList;"⟩
abbrev cX11_factors : ByteArray := prog_13_method_44_code
def yX11_factors : MethodName := ⟨RX11, "factors", "()I"⟩
abbrev cX11_factorAt : ByteArray := prog_13_method_45_code
def yX11_factorAt : MethodName := ⟨RX11, "factorAt", "(I)J"⟩
abbrev cX11_isNothing : ByteArray := prog_13_method_46_code
def yX11_isNothing : MethodName := ⟨RX11, "isNothing", "(JJ)Z"⟩
abbrev cX11_order : ByteArray := prog_13_method_47_code
def yX11_order : MethodName := ⟨RX11, "order", "()J"⟩
abbrev cX11_isPrime : ByteArray := prog_13_method_48_code
def yX11_isPrime : MethodName := ⟨RX11, "isPrime", "(J)Z"⟩
abbrev cX11_pointed : ByteArray := prog_13_method_49_code
def yX11_pointed : MethodName := ⟨RX11, "pointed", "(I)I"⟩
abbrev cX11_walk : ByteArray := prog_13_method_50_code
def yX11_walk : MethodName := ⟨RX11, "walk", "(I)I"⟩
abbrev cX11_rotor : ByteArray := prog_13_method_51_code
def yX11_rotor : MethodName := ⟨RX11, "rotor", "(I)I"⟩
abbrev cX11_visits : ByteArray := prog_13_method_52_code
def yX11_visits : MethodName := ⟨RX11, "visits", "(I)I"⟩
abbrev cX11_areTree : ByteArray := prog_13_method_53_code
def yX11_areTree : MethodName := ⟨RX11, "areTree", "()Z"⟩
abbrev cX11_setDebt : ByteArray := prog_13_method_54_code
def yX11_setDebt : MethodName := ⟨RX11, "setDebt", "(II)I"⟩
abbrev cX11_deal : ByteArray := prog_13_method_55_code
def yX11_deal : MethodName := ⟨RX11, "deal", "(IZ)I"⟩
abbrev cX11_debt : ByteArray := prog_13_method_56_code
def yX11_debt : MethodName := ⟨RX11, "debt", "(I)I"⟩
abbrev cX11_reducedBy : ByteArray := prog_13_method_57_code
def yX11_reducedBy : MethodName := ⟨RX11, "reducedBy", "([I)[I"⟩
abbrev cX11_fireOut : ByteArray := prog_13_method_58_code
def yX11_fireOut : MethodName := ⟨RX11, "fireOut", "([I)[I"⟩
abbrev cX11_reduced : ByteArray := prog_13_method_59_code
def yX11_reduced : MethodName := ⟨RX11, "reduced", "(I)I"⟩
abbrev cX11_canBePaid : ByteArray := prog_13_method_60_code
def yX11_canBePaid : MethodName := ⟨RX11, "canBePaid", "([I)Z"⟩
abbrev cX11_canPay : ByteArray := prog_13_method_61_code
def yX11_canPay : MethodName := ⟨RX11, "canPay", "()Z"⟩
abbrev cX11_together : ByteArray := prog_13_method_62_code
def yX11_together : MethodName := ⟨RX11, "together", "([I)I"⟩
abbrev cX11_canLose : ByteArray := prog_13_method_63_code
def yX11_canLose : MethodName := ⟨RX11, "canLose", "([III)Z"⟩
abbrev cX11_rank : ByteArray := prog_13_method_64_code
def yX11_rank : MethodName := ⟨RX11, "rank", "()I"⟩
abbrev cX11_picture : ByteArray := prog_13_method_65_code
def yX11_picture : MethodName := ⟨RX11, "picture", "(II)I"⟩
abbrev cX11_pixel : ByteArray := prog_13_method_66_code
def yX11_pixel : MethodName := ⟨RX11, "pixel", "(I)I"⟩
abbrev cX11_settledShare : ByteArray := prog_13_method_67_code
def yX11_settledShare : MethodName := ⟨RX11, "settledShare", "()F"⟩
abbrev cX11_meanChips : ByteArray := prog_13_method_68_code
def yX11_meanChips : MethodName := ⟨RX11, "meanChips", "()D"⟩
abbrev cX11_isSound : ByteArray := prog_13_method_69_code
def yX11_isSound : MethodName := ⟨RX11, "isSound", "()Z"⟩
abbrev cX11_isSameRow : ByteArray := prog_13_method_70_code
def yX11_isSameRow : MethodName := ⟨RX11, "isSameRow", "([I[I)Z"⟩
def RJx145de : String := "java/io/Serializable"
def TJx145de : u_T := fun k => match k with
  | _ => ("", "", "", false)
def tyJx145de : Nat → FieldType := fun k => match k with
  | _ => .int
theorem nmJx145de : ∀ a, a < 0 → ∀ b, b < 0 → a ≠ b → (TJx145de a).2.1 ≠ (TJx145de b).2.1 := by decide +kernel
theorem tyJx145de_ok : ∀ k, k < 0 → parseFieldDescriptor (TJx145de k).2.2.1 = some (tyJx145de k) := by decide +kernel
def RJx00060 : String := "java/lang/ArrayIndexOutOfBoundsException"
def TJx00060 : u_T := fun k => match k with
  | 0 => ("java/lang/Throwable", "backtrace", "Ljava/lang/Object;", false)
  | 1 => ("java/lang/Throwable", "detailMessage", "Ljava/lang/String;", false)
  | 2 => ("java/lang/Throwable", "cause", "Ljava/lang/Throwable;", false)
  | 3 => ("java/lang/Throwable", "stackTrace", "[Ljava/lang/StackTraceElement;", false)
  | 4 => ("java/lang/Throwable", "depth", "I", false)
  | _ => ("java/lang/Throwable", "suppressedExceptions", "Ljava/util/List;", false)
def tyJx00060 : Nat → FieldType := fun k => match k with
  | 0 => .object "java/lang/Object"
  | 1 => .object "java/lang/String"
  | 2 => .object "java/lang/Throwable"
  | 3 => .array (.object "java/lang/StackTraceElement")
  | 4 => .int
  | _ => .object "java/util/List"
theorem nmJx00060 : ∀ a, a < 6 → ∀ b, b < 6 → a ≠ b → (TJx00060 a).2.1 ≠ (TJx00060 b).2.1 := by decide +kernel
theorem tyJx00060_ok : ∀ k, k < 6 → parseFieldDescriptor (TJx00060 k).2.2.1 = some (tyJx00060 k) := by decide +kernel
abbrev cJx00060_init_a7421 : ByteArray := prog_16_method_2_code
def yJx00060_init_a7421 : MethodName := ⟨RJx00060, "<init>", "(Ljava/lang/String;)V"⟩
def RJx8e188 : String := "java/lang/Cloneable"
def TJx8e188 : u_T := fun k => match k with
  | _ => ("", "", "", false)
def tyJx8e188 : Nat → FieldType := fun k => match k with
  | _ => .int
theorem nmJx8e188 : ∀ a, a < 0 → ∀ b, b < 0 → a ≠ b → (TJx8e188 a).2.1 ≠ (TJx8e188 b).2.1 := by decide +kernel
theorem tyJx8e188_ok : ∀ k, k < 0 → parseFieldDescriptor (TJx8e188 k).2.2.1 = some (tyJx8e188 k) := by decide +kernel
def RJxb160c : String := "java/lang/Comparable"
def TJxb160c : u_T := fun k => match k with
  | _ => ("", "", "", false)
def tyJxb160c : Nat → FieldType := fun k => match k with
  | _ => .int
theorem nmJxb160c : ∀ a, a < 0 → ∀ b, b < 0 → a ≠ b → (TJxb160c a).2.1 ≠ (TJxb160c b).2.1 := by decide +kernel
theorem tyJxb160c_ok : ∀ k, k < 0 → parseFieldDescriptor (TJxb160c k).2.2.1 = some (tyJxb160c k) := by decide +kernel
def RJ6 : String := "java/lang/Integer"
def TJ6 : u_T := fun k => match k with
  | _ => ("", "", "", false)
def tyJ6 : Nat → FieldType := fun k => match k with
  | _ => .int
theorem nmJ6 : ∀ a, a < 0 → ∀ b, b < 0 → a ≠ b → (TJ6 a).2.1 ≠ (TJ6 b).2.1 := by decide +kernel
theorem tyJ6_ok : ∀ k, k < 0 → parseFieldDescriptor (TJ6 k).2.2.1 = some (tyJ6 k) := by decide +kernel
abbrev cJ6_bitCount_0f7a4 : ByteArray := prog_23_method_49_code
def yJ6_bitCount_0f7a4 : MethodName := ⟨RJ6, "bitCount", "(I)I"⟩
def RJxab1ab : String := "java/lang/Iterable"
def TJxab1ab : u_T := fun k => match k with
  | _ => ("", "", "", false)
def tyJxab1ab : Nat → FieldType := fun k => match k with
  | _ => .int
theorem nmJxab1ab : ∀ a, a < 0 → ∀ b, b < 0 → a ≠ b → (TJxab1ab a).2.1 ≠ (TJxab1ab b).2.1 := by decide +kernel
theorem tyJxab1ab_ok : ∀ k, k < 0 → parseFieldDescriptor (TJxab1ab k).2.2.1 = some (tyJxab1ab k) := by decide +kernel
def RJxdb0fc : String := "java/lang/Long$LongCache"
def TJxdb0fc : u_T := fun k => match k with
  | _ => ("", "", "", false)
def tyJxdb0fc : Nat → FieldType := fun k => match k with
  | _ => .int
theorem nmJxdb0fc : ∀ a, a < 0 → ∀ b, b < 0 → a ≠ b → (TJxdb0fc a).2.1 ≠ (TJxdb0fc b).2.1 := by decide +kernel
theorem tyJxdb0fc_ok : ∀ k, k < 0 → parseFieldDescriptor (TJxdb0fc k).2.2.1 = some (tyJxdb0fc k) := by decide +kernel
def RJ13 : String := "java/lang/Long"
def TJ13 : u_T := fun k => match k with
  | _ => ("java/lang/Long", "value", "J", true)
def tyJ13 : Nat → FieldType := fun k => match k with
  | _ => .long
theorem nmJ13 : ∀ a, a < 1 → ∀ b, b < 1 → a ≠ b → (TJ13 a).2.1 ≠ (TJ13 b).2.1 := by decide +kernel
theorem tyJ13_ok : ∀ k, k < 1 → parseFieldDescriptor (TJ13 k).2.2.1 = some (tyJ13 k) := by decide +kernel
abbrev cJ13_valueOf_928b6 : ByteArray := prog_25_method_24_code
def yJ13_valueOf_928b6 : MethodName := ⟨RJ13, "valueOf", "(J)Ljava/lang/Long;"⟩
abbrev cJ13_init_e45a9 : ByteArray := prog_25_method_26_code
def yJ13_init_e45a9 : MethodName := ⟨RJ13, "<init>", "(J)V"⟩
abbrev cJ13_longValue_f9912 : ByteArray := prog_25_method_31_code
def yJ13_longValue_f9912 : MethodName := ⟨RJ13, "longValue", "()J"⟩
def RJ9 : String := "java/lang/Math"
def TJ9 : u_T := fun k => match k with
  | _ => ("", "", "", false)
def tyJ9 : Nat → FieldType := fun k => match k with
  | _ => .int
theorem nmJ9 : ∀ a, a < 0 → ∀ b, b < 0 → a ≠ b → (TJ9 a).2.1 ≠ (TJ9 b).2.1 := by decide +kernel
theorem tyJ9_ok : ∀ k, k < 0 → parseFieldDescriptor (TJ9 k).2.2.1 = some (tyJ9 k) := by decide +kernel
abbrev cJ9_abs_067f4 : ByteArray := prog_27_method_61_code
def yJ9_abs_067f4 : MethodName := ⟨RJ9, "abs", "(J)J"⟩
abbrev cJ9_max_7cf53 : ByteArray := prog_27_method_65_code
def yJ9_max_7cf53 : MethodName := ⟨RJ9, "max", "(II)I"⟩
abbrev cJ9_min_7cf53 : ByteArray := prog_27_method_69_code
def yJ9_min_7cf53 : MethodName := ⟨RJ9, "min", "(II)I"⟩
def RJxd2413 : String := "java/lang/Number"
def TJxd2413 : u_T := fun k => match k with
  | _ => ("", "", "", false)
def tyJxd2413 : Nat → FieldType := fun k => match k with
  | _ => .int
theorem nmJxd2413 : ∀ a, a < 0 → ∀ b, b < 0 → a ≠ b → (TJxd2413 a).2.1 ≠ (TJxd2413 b).2.1 := by decide +kernel
theorem tyJxd2413_ok : ∀ k, k < 0 → parseFieldDescriptor (TJxd2413 k).2.2.1 = some (tyJxd2413 k) := by decide +kernel
abbrev cJxd2413_init_da8c8 : ByteArray := prog_28_method_1_code
def yJxd2413_init_da8c8 : MethodName := ⟨RJxd2413, "<init>", "()V"⟩
def RJ0 : String := "java/lang/String"
def TJ0 : u_T := fun k => match k with
  | 0 => ("java/lang/String", "value", "[B", true)
  | _ => ("java/lang/String", "coder", "B", true)
def tyJ0 : Nat → FieldType := fun k => match k with
  | 0 => .array .byte
  | _ => .byte
theorem nmJ0 : ∀ a, a < 2 → ∀ b, b < 2 → a ≠ b → (TJ0 a).2.1 ≠ (TJ0 b).2.1 := by decide +kernel
theorem tyJ0_ok : ∀ k, k < 2 → parseFieldDescriptor (TJ0 k).2.2.1 = some (tyJ0 k) := by decide +kernel
def RJ10 : String := "java/lang/System"
def TJ10 : u_T := fun k => match k with
  | _ => ("", "", "", false)
def tyJ10 : Nat → FieldType := fun k => match k with
  | _ => .int
theorem nmJ10 : ∀ a, a < 0 → ∀ b, b < 0 → a ≠ b → (TJ10 a).2.1 ≠ (TJ10 b).2.1 := by decide +kernel
theorem tyJ10_ok : ∀ k, k < 0 → parseFieldDescriptor (TJ10 k).2.2.1 = some (tyJ10 k) := by decide +kernel
def RJxfd54e : String := "java/lang/constant/Constable"
def TJxfd54e : u_T := fun k => match k with
  | _ => ("", "", "", false)
def tyJxfd54e : Nat → FieldType := fun k => match k with
  | _ => .int
theorem nmJxfd54e : ∀ a, a < 0 → ∀ b, b < 0 → a ≠ b → (TJxfd54e a).2.1 ≠ (TJxfd54e b).2.1 := by decide +kernel
theorem tyJxfd54e_ok : ∀ k, k < 0 → parseFieldDescriptor (TJxfd54e k).2.2.1 = some (tyJxfd54e k) := by decide +kernel
def RJx3cf43 : String := "java/lang/constant/ConstantDesc"
def TJx3cf43 : u_T := fun k => match k with
  | _ => ("", "", "", false)
def tyJx3cf43 : Nat → FieldType := fun k => match k with
  | _ => .int
theorem nmJx3cf43 : ∀ a, a < 0 → ∀ b, b < 0 → a ≠ b → (TJx3cf43 a).2.1 ≠ (TJx3cf43 b).2.1 := by decide +kernel
theorem tyJx3cf43_ok : ∀ k, k < 0 → parseFieldDescriptor (TJx3cf43 k).2.2.1 = some (tyJx3cf43 k) := by decide +kernel
def RJxa1e45 : String := "java/util/AbstractCollection"
def TJxa1e45 : u_T := fun k => match k with
  | _ => ("", "", "", false)
def tyJxa1e45 : Nat → FieldType := fun k => match k with
  | _ => .int
theorem nmJxa1e45 : ∀ a, a < 0 → ∀ b, b < 0 → a ≠ b → (TJxa1e45 a).2.1 ≠ (TJxa1e45 b).2.1 := by decide +kernel
theorem tyJxa1e45_ok : ∀ k, k < 0 → parseFieldDescriptor (TJxa1e45 k).2.2.1 = some (tyJxa1e45 k) := by decide +kernel
abbrev cJxa1e45_init_da8c8 : ByteArray := prog_36_method_1_code
def yJxa1e45_init_da8c8 : MethodName := ⟨RJxa1e45, "<init>", "()V"⟩
def RJxc12de : String := "java/util/AbstractList"
def TJxc12de : u_T := fun k => match k with
  | _ => ("", "", "", false)
def tyJxc12de : Nat → FieldType := fun k => match k with
  | _ => .int
theorem nmJxc12de : ∀ a, a < 0 → ∀ b, b < 0 → a ≠ b → (TJxc12de a).2.1 ≠ (TJxc12de b).2.1 := by decide +kernel
theorem tyJxc12de_ok : ∀ k, k < 0 → parseFieldDescriptor (TJxc12de k).2.2.1 = some (tyJxc12de k) := by decide +kernel
abbrev cJxc12de_init_da8c8 : ByteArray := prog_37_method_1_code
def yJxc12de_init_da8c8 : MethodName := ⟨RJxc12de, "<init>", "()V"⟩
def RJx4a65c : String := "java/util/ArrayList"
def TJx4a65c : u_T := fun k => match k with
  | 0 => ("java/util/AbstractList", "modCount", "I", false)
  | 1 => ("java/util/ArrayList", "elementData", "[Ljava/lang/Object;", false)
  | _ => ("java/util/ArrayList", "size", "I", false)
def tyJx4a65c : Nat → FieldType := fun k => match k with
  | 0 => .int
  | 1 => .array (.object "java/lang/Object")
  | _ => .int
theorem nmJx4a65c : ∀ a, a < 3 → ∀ b, b < 3 → a ≠ b → (TJx4a65c a).2.1 ≠ (TJx4a65c b).2.1 := by decide +kernel
theorem tyJx4a65c_ok : ∀ k, k < 3 → parseFieldDescriptor (TJx4a65c k).2.2.1 = some (tyJx4a65c k) := by decide +kernel
abbrev cJx4a65c_init_da8c8 : ByteArray := prog_38_method_2_code
def yJx4a65c_init_da8c8 : MethodName := ⟨RJx4a65c, "<init>", "()V"⟩
abbrev cJx4a65c_grow_92f84 : ByteArray := prog_38_method_6_code
def yJx4a65c_grow_92f84 : MethodName := ⟨RJx4a65c, "grow", "(I)[Ljava/lang/Object;"⟩
abbrev cJx4a65c_grow_d5877 : ByteArray := prog_38_method_7_code
def yJx4a65c_grow_d5877 : MethodName := ⟨RJx4a65c, "grow", "()[Ljava/lang/Object;"⟩
abbrev cJx4a65c_size_8abf5 : ByteArray := prog_38_method_8_code
def yJx4a65c_size_8abf5 : MethodName := ⟨RJx4a65c, "size", "()I"⟩
abbrev cJx4a65c_elementData_915e3 : ByteArray := prog_38_method_18_code
def yJx4a65c_elementData_915e3 : MethodName := ⟨RJx4a65c, "elementData", "(I)Ljava/lang/Object;"⟩
abbrev cJx4a65c_get_915e3 : ByteArray := prog_38_method_20_code
def yJx4a65c_get_915e3 : MethodName := ⟨RJx4a65c, "get", "(I)Ljava/lang/Object;"⟩
abbrev cJx4a65c_add_72be8 : ByteArray := prog_38_method_24_code
def yJx4a65c_add_72be8 : MethodName := ⟨RJx4a65c, "add", "(Ljava/lang/Object;[Ljava/lang/Object;I)V"⟩
abbrev cJx4a65c_add_9ea2d : ByteArray := prog_38_method_25_code
def yJx4a65c_add_9ea2d : MethodName := ⟨RJx4a65c, "add", "(Ljava/lang/Object;)Z"⟩
def RJ7 : String := "java/util/Arrays"
def TJ7 : u_T := fun k => match k with
  | _ => ("", "", "", false)
def tyJ7 : Nat → FieldType := fun k => match k with
  | _ => .int
theorem nmJ7 : ∀ a, a < 0 → ∀ b, b < 0 → a ≠ b → (TJ7 a).2.1 ≠ (TJ7 b).2.1 := by decide +kernel
theorem tyJ7_ok : ∀ k, k < 0 → parseFieldDescriptor (TJ7 k).2.2.1 = some (tyJ7 k) := by decide +kernel
abbrev cJ7_fill_53178 : ByteArray := prog_39_method_103_code
def yJ7_fill_53178 : MethodName := ⟨RJ7, "fill", "([II)V"⟩
abbrev cJ7_copyOf_1904c : ByteArray := prog_39_method_119_code
def yJ7_copyOf_1904c : MethodName := ⟨RJ7, "copyOf", "([Ljava/lang/Object;I)[Ljava/lang/Object;"⟩
abbrev cJ7_copyOf_6403c : ByteArray := prog_39_method_120_code
def yJ7_copyOf_6403c : MethodName := ⟨RJ7, "copyOf", "([Ljava/lang/Object;ILjava/lang/Class;)[Ljava/lang/Object;"⟩
def RJx5ef63 : String := "java/util/Collection"
def TJx5ef63 : u_T := fun k => match k with
  | _ => ("", "", "", false)
def tyJx5ef63 : Nat → FieldType := fun k => match k with
  | _ => .int
theorem nmJx5ef63 : ∀ a, a < 0 → ∀ b, b < 0 → a ≠ b → (TJx5ef63 a).2.1 ≠ (TJx5ef63 b).2.1 := by decide +kernel
theorem tyJx5ef63_ok : ∀ k, k < 0 → parseFieldDescriptor (TJx5ef63 k).2.2.1 = some (tyJx5ef63 k) := by decide +kernel
def RJxbd725 : String := "java/util/List"
def TJxbd725 : u_T := fun k => match k with
  | _ => ("", "", "", false)
def tyJxbd725 : Nat → FieldType := fun k => match k with
  | _ => .int
theorem nmJxbd725 : ∀ a, a < 0 → ∀ b, b < 0 → a ≠ b → (TJxbd725 a).2.1 ≠ (TJxbd725 b).2.1 := by decide +kernel
theorem tyJxbd725_ok : ∀ k, k < 0 → parseFieldDescriptor (TJxbd725 k).2.2.1 = some (tyJxbd725 k) := by decide +kernel
def RJ15 : String := "java/util/Objects"
def TJ15 : u_T := fun k => match k with
  | _ => ("", "", "", false)
def tyJ15 : Nat → FieldType := fun k => match k with
  | _ => .int
theorem nmJ15 : ∀ a, a < 0 → ∀ b, b < 0 → a ≠ b → (TJ15 a).2.1 ≠ (TJ15 b).2.1 := by decide +kernel
theorem tyJ15_ok : ∀ k, k < 0 → parseFieldDescriptor (TJ15 k).2.2.1 = some (tyJ15 k) := by decide +kernel
abbrev cJ15_checkIndex_7cf53 : ByteArray := prog_43_method_17_code
def yJ15_checkIndex_7cf53 : MethodName := ⟨RJ15, "checkIndex", "(II)I"⟩
def RJxf0a74 : String := "java/util/RandomAccess"
def TJxf0a74 : u_T := fun k => match k with
  | _ => ("", "", "", false)
def tyJxf0a74 : Nat → FieldType := fun k => match k with
  | _ => .int
theorem nmJxf0a74 : ∀ a, a < 0 → ∀ b, b < 0 → a ≠ b → (TJxf0a74 a).2.1 ≠ (TJxf0a74 b).2.1 := by decide +kernel
theorem tyJxf0a74_ok : ∀ k, k < 0 → parseFieldDescriptor (TJxf0a74 k).2.2.1 = some (tyJxf0a74 k) := by decide +kernel
def RJxa66e6 : String := "java/util/SequencedCollection"
def TJxa66e6 : u_T := fun k => match k with
  | _ => ("", "", "", false)
def tyJxa66e6 : Nat → FieldType := fun k => match k with
  | _ => .int
theorem nmJxa66e6 : ∀ a, a < 0 → ∀ b, b < 0 → a ≠ b → (TJxa66e6 a).2.1 ≠ (TJxa66e6 b).2.1 := by decide +kernel
theorem tyJxa66e6_ok : ∀ k, k < 0 → parseFieldDescriptor (TJxa66e6 k).2.2.1 = some (tyJxa66e6 k) := by decide +kernel
def RJ8 : String := "jdk/internal/util/ArraysSupport"
def TJ8 : u_T := fun k => match k with
  | _ => ("", "", "", false)
def tyJ8 : Nat → FieldType := fun k => match k with
  | _ => .int
theorem nmJ8 : ∀ a, a < 0 → ∀ b, b < 0 → a ≠ b → (TJ8 a).2.1 ≠ (TJ8 b).2.1 := by decide +kernel
theorem tyJ8_ok : ∀ k, k < 0 → parseFieldDescriptor (TJ8 k).2.2.1 = some (tyJ8 k) := by decide +kernel
abbrev cJ8_newLength_cabcc : ByteArray := prog_46_method_27_code
def yJ8_newLength_cabcc : MethodName := ⟨RJ8, "newLength", "(III)I"⟩
abbrev cJ8_hugeLength_7cf53 : ByteArray := prog_46_method_28_code
def yJ8_hugeLength_7cf53 : MethodName := ⟨RJ8, "hugeLength", "(II)I"⟩
def RJ3 : String := "jdk/internal/util/Preconditions"
def TJ3 : u_T := fun k => match k with
  | _ => ("", "", "", false)
def tyJ3 : Nat → FieldType := fun k => match k with
  | _ => .int
theorem nmJ3 : ∀ a, a < 0 → ∀ b, b < 0 → a ≠ b → (TJ3 a).2.1 ≠ (TJ3 b).2.1 := by decide +kernel
theorem tyJ3_ok : ∀ k, k < 0 → parseFieldDescriptor (TJ3 k).2.2.1 = some (tyJ3 k) := by decide +kernel
abbrev cJ3_checkIndex_8e157 : ByteArray := prog_47_method_11_code
def yJ3_checkIndex_8e157 : MethodName := ⟨RJ3, "checkIndex", "(IILjava/util/function/BiFunction;)I"⟩
def RL : String := "ChipfoldLaw"
abbrev cL_vertex : ByteArray := method_3_code
def yL_vertex : MethodName := ⟨RL, "vertex", "(LChipfold;[J)I"⟩
abbrev cL_edges : ByteArray := method_4_code
def yL_edges : MethodName := ⟨RL, "edges", "(LChipfold;III[J)I"⟩
abbrev cL_setSink : ByteArray := method_5_code
def yL_setSink : MethodName := ⟨RL, "setSink", "(LChipfold;I[J)I"⟩
abbrev cL_degree : ByteArray := method_6_code
def yL_degree : MethodName := ⟨RL, "degree", "(LChipfold;I[J)I"⟩
abbrev cL_put : ByteArray := method_7_code
def yL_put : MethodName := ⟨RL, "put", "(LChipfold;II[J)I"⟩
abbrev cL_chips : ByteArray := method_8_code
def yL_chips : MethodName := ⟨RL, "chips", "(LChipfold;I[J)I"⟩
abbrev cL_topple : ByteArray := method_9_code
def yL_topple : MethodName := ⟨RL, "topple", "(LChipfold;I[J)I"⟩
abbrev cL_settle : ByteArray := method_10_code
def yL_settle : MethodName := ⟨RL, "settle", "(LChipfold;[J)I"⟩
abbrev cL_waves : ByteArray := method_11_code
def yL_waves : MethodName := ⟨RL, "waves", "(LChipfold;[J)I"⟩
abbrev cL_count : ByteArray := method_12_code
def yL_count : MethodName := ⟨RL, "count", "(LChipfold;I[J)I"⟩
abbrev cL_isAgain : ByteArray := method_13_code
def yL_isAgain : MethodName := ⟨RL, "isAgain", "(LChipfold;[J)I"⟩
abbrev cL_burns : ByteArray := method_14_code
def yL_burns : MethodName := ⟨RL, "burns", "(LChipfold;I[J)I"⟩
abbrev cL_unit : ByteArray := method_15_code
def yL_unit : MethodName := ⟨RL, "unit", "(LChipfold;I[J)I"⟩
abbrev cL_square : ByteArray := method_16_code
def yL_square : MethodName := ⟨RL, "square", "(LChipfold;[J)I"⟩
abbrev cL_factors : ByteArray := method_17_code
def yL_factors : MethodName := ⟨RL, "factors", "(LChipfold;[J)I"⟩
abbrev cL_factorAt : ByteArray := method_18_code
def yL_factorAt : MethodName := ⟨RL, "factorAt", "(LChipfold;I[J)I"⟩
abbrev cL_order : ByteArray := method_19_code
def yL_order : MethodName := ⟨RL, "order", "(LChipfold;[J)I"⟩
abbrev cL_walk : ByteArray := method_20_code
def yL_walk : MethodName := ⟨RL, "walk", "(LChipfold;I[J)I"⟩
abbrev cL_rotor : ByteArray := method_21_code
def yL_rotor : MethodName := ⟨RL, "rotor", "(LChipfold;I[J)I"⟩
abbrev cL_visits : ByteArray := method_22_code
def yL_visits : MethodName := ⟨RL, "visits", "(LChipfold;I[J)I"⟩
abbrev cL_areTree : ByteArray := method_23_code
def yL_areTree : MethodName := ⟨RL, "areTree", "(LChipfold;[J)I"⟩
abbrev cL_setDebt : ByteArray := method_24_code
def yL_setDebt : MethodName := ⟨RL, "setDebt", "(LChipfold;II[J)I"⟩
abbrev cL_deal : ByteArray := method_25_code
def yL_deal : MethodName := ⟨RL, "deal", "(LChipfold;IZ[J)I"⟩
abbrev cL_debt : ByteArray := method_26_code
def yL_debt : MethodName := ⟨RL, "debt", "(LChipfold;I[J)I"⟩
abbrev cL_reduced : ByteArray := method_27_code
def yL_reduced : MethodName := ⟨RL, "reduced", "(LChipfold;I[J)I"⟩
abbrev cL_canPay : ByteArray := method_28_code
def yL_canPay : MethodName := ⟨RL, "canPay", "(LChipfold;[J)I"⟩
abbrev cL_rank : ByteArray := method_29_code
def yL_rank : MethodName := ⟨RL, "rank", "(LChipfold;[J)I"⟩
abbrev cL_picture : ByteArray := method_30_code
def yL_picture : MethodName := ⟨RL, "picture", "(LChipfold;II[J)I"⟩
abbrev cL_pixel : ByteArray := method_31_code
def yL_pixel : MethodName := ⟨RL, "pixel", "(LChipfold;I[J)I"⟩
abbrev cL_settledShare : ByteArray := method_32_code
def yL_settledShare : MethodName := ⟨RL, "settledShare", "(LChipfold;[D)I"⟩
abbrev cL_meanChips : ByteArray := method_33_code
def yL_meanChips : MethodName := ⟨RL, "meanChips", "(LChipfold;[D)I"⟩
abbrev cL_law : ByteArray := code
def yL_law : MethodName := ⟨RL, "law", "([I)Z"⟩
abbrev vwCl : List vw_C := [(RJ0, TJ0, 2), (RJ13, TJ13, 1), (RJx00060, TJx00060, 6), (RJx4a65c, TJx4a65c, 3), (RX0, TX0, 7), (RX1, TX1, 2), (RX2, TX2, 4), (RX3, TX3, 4), (RX4, TX4, 3), (RX5, TX5, 1), (RX6, TX6, 4), (RX7, TX7, 3), (RX8, TX8, 1), (RX9, TX9, 1), (RX10, TX10, 11), (RX11, TX11, 12)]
end
section
/-- the words of the tables that any method may be handed on -/
def WG : List Cond := lw_tbl.filter goodWord
theorem wg_hts {args : Array Value} {s : State} (h : ∀ w ∈ lw_tbl, w.before args s = true) : ∀ w ∈ WG, w.before args s = true := fun w hw => h w (List.mem_filter.mp hw).1
theorem wg_of {w : Cond} (h : w ∈ lw_tbl) (hg : goodWord w = true) : w ∈ WG := List.mem_filter.mpr ⟨h, hg⟩
theorem wg_t {w : Cond} (h : w ∈ tables_1) (hg : goodWord w = true) : w ∈ WG := wg_of (List.mem_append_right _ h) hg
theorem wg_0 {w : Cond} (h : w ∈ k2_sels lw_privs) (hg : goodWord w = true) : w ∈ WG := wg_of (List.mem_append_left _ h) hg
theorem wg_1 {w : Cond} (h : w ∈ tables_1_1) (hg : goodWord w = true) : w ∈ WG := wg_t (List.mem_append_left _ h) hg
theorem wg_2 {w : Cond} (h : w ∈ tables_1_2) (hg : goodWord w = true) : w ∈ WG := wg_t (List.mem_append_right _ (List.mem_append_left _ h)) hg
theorem wg_3 {w : Cond} (h : w ∈ tables_1_3) (hg : goodWord w = true) : w ∈ WG := wg_t (List.mem_append_right _ (List.mem_append_right _ (List.mem_append_left _ h))) hg
theorem wg_4 {w : Cond} (h : w ∈ tables_1_4) (hg : goodWord w = true) : w ∈ WG := wg_t (List.mem_append_right _ (List.mem_append_right _ (List.mem_append_right _ (List.mem_append_left _ h)))) hg
theorem wg_5 {w : Cond} (h : w ∈ tables_1_5) (hg : goodWord w = true) : w ∈ WG := wg_t (List.mem_append_right _ (List.mem_append_right _ (List.mem_append_right _ (List.mem_append_right _ (List.mem_append_left _ h))))) hg
theorem wg_6 {w : Cond} (h : w ∈ tables_1_6) (hg : goodWord w = true) : w ∈ WG := wg_t (List.mem_append_right _ (List.mem_append_right _ (List.mem_append_right _ (List.mem_append_right _ (List.mem_append_right _ (List.mem_append_left _ h)))))) hg
theorem wg_7 {w : Cond} (h : w ∈ tables_1_7) (hg : goodWord w = true) : w ∈ WG := wg_t (List.mem_append_right _ (List.mem_append_right _ (List.mem_append_right _ (List.mem_append_right _ (List.mem_append_right _ (List.mem_append_right _ (h))))))) hg
theorem wg_good {w : Cond} (h : w ∈ WG) : (w.onTables && w.keeps) = true ∨ ∃ ty, w = .arrayClass ty := good_of_word (List.mem_filter.mp h).2
theorem wg_in {ws : List Cond} (h : ∀ w ∈ ws, w ∈ WG) : GoodIn WG ws := fun w hw => ⟨h w hw, wg_good (h w hw)⟩
theorem wg_cons {w : Cond} {ws : List Cond} (h : w ∈ WG) (h2 : ∀ x ∈ ws, x ∈ WG) : ∀ x ∈ w :: ws, x ∈ WG := List.forall_mem_cons.mpr ⟨h, h2⟩
theorem wg_V {own C : String} {idx ny : Nat} {y : MethodName} {cy : ByteArray} {ret : Option FieldType} (h1 : Cond.methodLink own idx y ∈ WG) (h2 : Cond.instanceMethod y ∈ WG) (h3 : Cond.selects C y y ∈ WG) (h4 : Cond.initialized C ∈ WG) (h5 : Cond.code y cy ny ret ∈ WG) : GoodIn WG (wsV own idx C y (Cond.code y cy ny ret :: WG)) :=
  wg_in (wg_cons h1 (wg_cons h2 (wg_cons h3 (wg_cons h4 (wg_cons h5 (fun _ h => h))))))
theorem wg_S {own : String} {idx ny : Nat} {y : MethodName} {cy : ByteArray} {ret : Option FieldType} (h1 : Cond.methodLink own idx y ∈ WG) (h2 : Cond.static y ∈ WG) (h4 : Cond.initialized own ∈ WG) (h5 : Cond.code y cy ny ret ∈ WG) : GoodIn WG (wsS own idx y (Cond.code y cy ny ret :: WG)) :=
  wg_in (wg_cons h1 (wg_cons h2 (wg_cons h4 (wg_cons h5 (fun _ h => h)))))
theorem wg_C {ny : Nat} {y : MethodName} {cy : ByteArray} {ret : Option FieldType} (h5 : Cond.code y cy ny ret ∈ WG) : GoodIn WG (Cond.code y cy ny ret :: WG) := wg_in (wg_cons h5 (fun _ h => h))
/-- the array classes of all worlds -/
abbrev tyG (k : Nat → ClassId) : List (ClassId × FieldType) := [(k 0, .int), (k 1, .long), (k 2, .boolean), (k 3, .array .int), (k 4, .array .long), (k 5, .double)]
/-- a row of ints, of longs, of booleans, of references, of doubles -/
abbrev aI (k : Nat → ClassId) (n : Nat) (f : Nat → Int32) : va_E := .inl (k 0, n, .inl f)
abbrev aJ (k : Nat → ClassId) (n : Nat) (f : Nat → Int64) : va_E := .inl (k 1, n, .inr (.inl f))
abbrev aZ (k : Nat → ClassId) (n : Nat) (f : Nat → Int32) : va_E := .inl (k 2, n, .inl f)
abbrev aR (k : Nat → ClassId) (j n : Nat) (f : Nat → Option Nat) : va_E := .inl (k j, n, .inr (.inr (.inr (.inr f))))
abbrev aD (k : Nat → ClassId) (n : Nat) (f : Nat → UInt64) : va_E := .inl (k 5, n, .inr (.inr (.inr (.inl f))))
/-- links of private makers among nest mates: words that a method can't be handed on in its list -/
def nestW : List (String × Nat × MethodName × String) := [("Chipfold", 9, ⟨"Chipfold$Graph", "<init>", "()V"⟩, "Chipfold"), ("Chipfold$Group", 11, ⟨"Chipfold$Matrix", "<init>", "()V"⟩, "Chipfold"), ("Chipfold", 56, ⟨"Chipfold$TreeCount", "<init>", "()V"⟩, "Chipfold"), ("Chipfold", 79, ⟨"Chipfold$Drawing", "<init>", "()V"⟩, "Chipfold")]
/-- the tables hold the class of arrays of arrays of ty -/
def va_AOA (ty : FieldType) (U : State) : Prop := (Cond.arrayOver (.array ty)).before #[] U = true
theorem va_AOA.use {ty : FieldType} {A : Array Value} {U : State} (h : va_AOA ty U) : (Cond.arrayOver (.array ty)).before A U = true := h
theorem va_AOA.moved {ty : FieldType} {u U : State} (hvm : u.vm.Alike U.vm) (h : va_AOA ty u) : va_AOA ty U := by
  have e1 : (Cond.arrayOver (.array ty)).before #[] (u.setVm U.vm) = true := by rw [Cond.arrayOver_setVmC hvm]; exact h
  have e2 : (Cond.arrayOver (.array ty)).before #[] (u.setVm U.vm) = (Cond.arrayOver (.array ty)).before #[] U := by
    unfold Cond.before Cond.holds
    simp only [Cond.value]
    rfl
  unfold va_AOA
  rw [← e2]
  exact e1
def NF (U : State) : Prop := (∀ q ∈ nestW, va_Nw (.methodLinkNest q.1 q.2.1 q.2.2.1 q.2.2.2) U) ∧ va_AOA .int U ∧ va_AOA .long U ∧ va_Nw (.castable "[I" "java/lang/Cloneable") U
theorem NF.same {u U : State} (h : u.vm = U.vm) (hN : NF u) : NF U := ⟨fun q hq => (hN.1 q hq).same rfl h, hN.2.1.moved (by rw [h]; exact Vm.Alike.refl _), hN.2.2.1.moved (by rw [h]; exact Vm.Alike.refl _), hN.2.2.2.same rfl h⟩
theorem NF.warm {s U : State} (hW : s.WarmedH U.vm) (hN : NF s) : NF U := ⟨fun q hq => (hN.1 q hq).warmM hW, hN.2.1.moved hW.alike, hN.2.2.1.moved hW.alike, hN.2.2.2.warmC hW⟩
/-- what stays through a walk -/
def Cx (p : Program) (s : State) (m : MethodId) (args : Array Value) (c : Code) (D : va_G) (k : Nat → ClassId) (A : Nat → Prop) (cc : ByteArray) (own : String) (nL : Nat) : Prop :=
  p.tables.exec = Jvm.exec ∧ c.code = cc ∧ c.maxLocals = nL ∧ s.vm.findClass own = some m.cls ∧ (∀ w ∈ WG, w.before args s = true) ∧ va_K D vwCl (tyG k) s ∧ (∀ q, s.heap.size ≤ q → A q) ∧ NF s
/-- the walk goes on well from the world ws, the locals lv, the stack st; so many cells at least are new: g -/
def G (p : Program) (l : Launch) (e : Env) (R : Room) (s : State) (m : MethodId) (args : Array Value) (below : List Frame) (meth : Method) (c : Code) (D : va_G) (nL : Nat) (A : Nat → Prop) (Q : State → Prop) (ws : va_W) (lv : List (Nat × Value)) (cells slots g pc : Nat) (st : List Value) : Prop :=
  ∀ (H : Heap) (locs : List Loc), va_P D vwCl ws H → va_D A ws → va_S A s.heap H locs → s.heap.size + g ≤ H.size → ∀ ls : Array Slot, lv_has ls nL lv → W p l e R s m args below meth c H locs cells slots Q (F0 m pc ls st)
/-- a method's contract: over the world w0 it answers and leaves what post says; of new cells there are at most mc of ms slots, and at least gr -/
def CM (l : Launch) (D : va_G) (k : Nat → ClassId) (y : MethodName) (cy : ByteArray) (ny : Nat) (ret : Option FieldType) (fr lo : Nat) (av : List Value) (w0 : va_W) (post : Option Value → va_W → Prop) (mc ms gr : Nat) : Prop :=
  ∀ sz : Nat, Met l y (Cond.code y cy ny ret :: WG) { frames := fr, cells := mc, slots := ms, locals := lo }
    (va_Pc av (fun U => U.heap.size = sz ∧ va_P D vwCl w0 U.heap ∧ va_K D vwCl (tyG k) U ∧ va_D (fun _ => True) w0 ∧ NF U))
    (fun _ st o t => (∃ (rv : Option Value) (w1 : va_W), o = .returned rv ∧ post rv w1 ∧ va_P D vwCl w1 t.heap ∧ va_D (va_A w0 sz) w1 ∧ sz + gr ≤ t.heap.size) ∧ va_F (va_A w0 sz) st t) mc ms (va_A w0 sz)
/-- one answer, one world behind it -/
abbrev is1 (r : Option Value) (w : va_W) : Option Value → va_W → Prop := fun r' w' => r' = r ∧ w' = w
/-- a method's end: what its contract owes there -/
abbrev QM (below : List Frame) (D : va_G) (args : Array Value) (s : State) (w0 : va_W) (post : Option Value → va_W → Prop) (mc ms gr : Nat) : State → Prop :=
  MQ below (fun _ st o t => (∃ (rv : Option Value) (w1 : va_W), o = .returned rv ∧ post rv w1 ∧ va_P D vwCl w1 t.heap ∧ va_D (va_A w0 s.heap.size) w1 ∧ s.heap.size + gr ≤ t.heap.size) ∧ va_F (va_A w0 s.heap.size) st t) args s mc ms (va_A w0 s.heap.size)
theorem CM.of {l : Launch} {D : va_G} {k : Nat → ClassId} {y : MethodName} {cy : ByteArray} {ny : Nat} {ret : Option FieldType} {fr lo : Nat} {av : List Value} {w0 : va_W} {post : Option Value → va_W → Prop} {mc ms gr : Nat} {lv0 : List (Nat × Value)}
    (hy : plainName y.cls = true) (hn : (lg_sl av).length ≤ ny) (hlv : lv_args 0 av = lv0)
    (body : ∀ (p : Program) (e : Env) (s : State) (m : MethodId) (below : List Frame) (meth : Method) (c : Code), Cx p s m av.toArray c D k (va_A w0 s.heap.size) cy y.cls ny → meth.sig.returnType = ret → meth.locks = false → meth.name = y.name → l.admits e →
      G p l e { frames := fr, cells := mc, slots := ms, locals := lo } s m av.toArray below meth c D ny (va_A w0 s.heap.size) (QM below D av.toArray s w0 post mc ms gr) w0 lv0 0 0 0 0 []) :
    CM l D k y cy ny ret fr lo av w0 post mc ms gr := by
  intro sz
  refine Met.ofW (cc := cy) (maxL := ny) (ret := ret) hy rfl ?_
  intro p e s m args below meth c s₁ B hml hv
  obtain ⟨rfl, hsz, hP, hK, hD0, hNF⟩ := hv
  subst hsz
  have hts0 := atoms_spec (ws := Cond.code y cy ny ret :: WG) B.pre
  have hown : s.vm.findClass y.cls = some m.cls := findClass_of_methodNamed B.named
  have hA : ∀ q : Nat, s.heap.size ≤ q → va_A w0 s.heap.size q := fun q h => Or.inr h
  have hl := lv_entry av (n := ny) hn
  rw [hlv] at hl
  rw [lg_entry_eq]
  exact body p e s m below meth c ⟨B.exec, B.bytes, hml, hown, fun w hw => hts0 w (List.mem_cons_of_mem _ hw), hK, hA, hNF⟩ B.returns B.notSynchronized (name_of_methodNamed B.named B.method).1 (Stand.of_body B).admits s.heap [] hP hD0.self va_S.rf (Nat.le_refl _) _ hl
section GG
variable {p : Program} {l : Launch} {e : Env} {R : Room} {s : State} {m : MethodId} {args : Array Value} {below : List Frame} {meth : Method} {c : Code} {D : va_G} {k : Nat → ClassId} {A : Nat → Prop} {cc : ByteArray} {own : String} {nL : Nat} {Q : State → Prop} {ws : va_W} {lv : List (Nat × Value)} {cells slots g pc : Nat} {st : List Value}
/-- fewer cells, in another order -/
theorem G.re (ps : List Nat) {ws' : va_W} (hn : va_nd ps = true) (hs : ps.map (fun i => ws[i]?) = ws'.map some) (kk : G p l e R s m args below meth c D nL A Q ws' lv cells slots g pc st) : G p l e R s m args below meth c D nL A Q ws lv cells slots g pc st := by
  intro H locs hP hD hS hZ ls hl
  have hs2 : ps.filterMap (fun i => ws[i]?) = ws' := by
    have h1 : ps.filterMap (fun i => ws[i]?) = (ps.map (fun i => ws[i]?)).filterMap id := by rw [List.filterMap_map]; rfl
    rw [h1, hs, List.filterMap_map]
    have h2 : (id ∘ some : Nat × va_E → Option (Nat × va_E)) = some := rfl
    rw [h2, List.filterMap_some]
  exact kk H locs (hP.sub ps hs2) (hD.sub ps hn hs) hS hZ ls hl
theorem G.loc {lv' : List (Nat × Value)} (ps : List Nat) (hl : lv_pick lv ps = lv') (kk : G p l e R s m args below meth c D nL A Q ws lv' cells slots g pc st) : G p l e R s m args below meth c D nL A Q ws lv cells slots g pc st := fun H locs hP hD hS hZ ls hl2 => kk H locs hP hD hS hZ ls (lv_sub hl2 ps hl)
theorem G.widen {k' n' g' : Nat} (h1 : cells ≤ k') (h2 : slots ≤ n') (h3 : g' ≤ g) (kk : G p l e R s m args below meth c D nL A Q ws lv k' n' g' pc st) : G p l e R s m args below meth c D nL A Q ws lv cells slots g pc st := fun H locs hP hD hS hZ ls hl => W.widen h1 h2 (kk H locs hP hD hS (Nat.le_trans (Nat.add_le_add_left h3 _) hZ) ls hl)
theorem G.eqw {ws' : va_W} (h : ws = ws') (kk : G p l e R s m args below meth c D nL A Q ws' lv cells slots g pc st) : G p l e R s m args below meth c D nL A Q ws lv cells slots g pc st := h ▸ kk
theorem G.eql {lv' : List (Nat × Value)} (h : lv = lv') (kk : G p l e R s m args below meth c D nL A Q ws lv' cells slots g pc st) : G p l e R s m args below meth c D nL A Q ws lv cells slots g pc st := h ▸ kk
theorem G.eqs {st' : List Value} (h : st = st') (kk : G p l e R s m args below meth c D nL A Q ws lv cells slots g pc st') : G p l e R s m args below meth c D nL A Q ws lv cells slots g pc st := h ▸ kk
/-- what a world gives: its cells are apart -/
theorem G.ap (kk : (∀ (i j : Nat) (x y : Nat × va_E), ws[i]? = some x → ws[j]? = some y → x.1 = y.1 → i = j) → G p l e R s m args below meth c D nL A Q ws lv cells slots g pc st) : G p l e R s m args below meth c D nL A Q ws lv cells slots g pc st := fun H locs hP hD hS hZ ls hl => kk hD.1 H locs hP hD hS hZ ls hl
theorem g_iload (C : Cx p s m args c D k A cc own nL) {i : Nat} {x : Int32} (j : Nat) (hv : lv[j]? = some (i, .int x)) (hdg : decode cc pc = .ok (.iload i, 2)) (kk : G p l e R s m args below meth c D nL A Q ws lv cells slots g (pc + 2) (.int x :: st)) : G p l e R s m args below meth c D nL A Q ws lv cells slots g pc st := fun H locs hP hD hS hZ ls hl => lv_iload C.1 C.2.1 hdg (lv_at hl j hv) (kk H locs hP hD hS hZ ls hl)
theorem g_iload_n (C : Cx p s m args c D k A cc own nL) {n : Fin 4} {i : Nat} {x : Int32} (j : Nat) (hi : (n : Nat) = i) (hv : lv[j]? = some (i, .int x)) (hdg : decode cc pc = .ok (.iload_n n, 1)) (kk : G p l e R s m args below meth c D nL A Q ws lv cells slots g (pc + 1) (.int x :: st)) : G p l e R s m args below meth c D nL A Q ws lv cells slots g pc st := fun H locs hP hD hS hZ ls hl => lv_iload_n C.1 C.2.1 hdg hi (lv_at hl j hv) (kk H locs hP hD hS hZ ls hl)
theorem g_aload (C : Cx p s m args c D k A cc own nL) {i : Nat} {x : Nat} (j : Nat) (hv : lv[j]? = some (i, .ref x)) (hdg : decode cc pc = .ok (.aload i, 2)) (kk : G p l e R s m args below meth c D nL A Q ws lv cells slots g (pc + 2) (.ref x :: st)) : G p l e R s m args below meth c D nL A Q ws lv cells slots g pc st := fun H locs hP hD hS hZ ls hl => lv_aload C.1 C.2.1 hdg (lv_at hl j hv) (kk H locs hP hD hS hZ ls hl)
theorem g_aload_n (C : Cx p s m args c D k A cc own nL) {n : Fin 4} {i : Nat} {x : Nat} (j : Nat) (hi : (n : Nat) = i) (hv : lv[j]? = some (i, .ref x)) (hdg : decode cc pc = .ok (.aload_n n, 1)) (kk : G p l e R s m args below meth c D nL A Q ws lv cells slots g (pc + 1) (.ref x :: st)) : G p l e R s m args below meth c D nL A Q ws lv cells slots g pc st := fun H locs hP hD hS hZ ls hl => lv_aload_n C.1 C.2.1 hdg hi (lv_at hl j hv) (kk H locs hP hD hS hZ ls hl)
theorem g_lload (C : Cx p s m args c D k A cc own nL) {i : Nat} {x : Int64} (j : Nat) (hv : lv[j]? = some (i, .long x)) (hdg : decode cc pc = .ok (.lload i, 2)) (kk : G p l e R s m args below meth c D nL A Q ws lv cells slots g (pc + 2) (.long x :: st)) : G p l e R s m args below meth c D nL A Q ws lv cells slots g pc st := fun H locs hP hD hS hZ ls hl => lv_lload C.1 C.2.1 hdg (lv_at hl j hv) (kk H locs hP hD hS hZ ls hl)
theorem g_lload_n (C : Cx p s m args c D k A cc own nL) {n : Fin 4} {i : Nat} {x : Int64} (j : Nat) (hi : (n : Nat) = i) (hv : lv[j]? = some (i, .long x)) (hdg : decode cc pc = .ok (.lload_n n, 1)) (kk : G p l e R s m args below meth c D nL A Q ws lv cells slots g (pc + 1) (.long x :: st)) : G p l e R s m args below meth c D nL A Q ws lv cells slots g pc st := fun H locs hP hD hS hZ ls hl => lv_lload_n C.1 C.2.1 hdg hi (lv_at hl j hv) (kk H locs hP hD hS hZ ls hl)
theorem g_fload (C : Cx p s m args c D k A cc own nL) {i : Nat} {x : UInt32} (j : Nat) (hv : lv[j]? = some (i, .float x)) (hdg : decode cc pc = .ok (.fload i, 2)) (kk : G p l e R s m args below meth c D nL A Q ws lv cells slots g (pc + 2) (.float x :: st)) : G p l e R s m args below meth c D nL A Q ws lv cells slots g pc st := fun H locs hP hD hS hZ ls hl => lv_fload C.1 C.2.1 hdg (lv_at hl j hv) (kk H locs hP hD hS hZ ls hl)
theorem g_fload_n (C : Cx p s m args c D k A cc own nL) {n : Fin 4} {i : Nat} {x : UInt32} (j : Nat) (hi : (n : Nat) = i) (hv : lv[j]? = some (i, .float x)) (hdg : decode cc pc = .ok (.fload_n n, 1)) (kk : G p l e R s m args below meth c D nL A Q ws lv cells slots g (pc + 1) (.float x :: st)) : G p l e R s m args below meth c D nL A Q ws lv cells slots g pc st := fun H locs hP hD hS hZ ls hl => lv_fload_n C.1 C.2.1 hdg hi (lv_at hl j hv) (kk H locs hP hD hS hZ ls hl)
theorem g_dload (C : Cx p s m args c D k A cc own nL) {i : Nat} {x : UInt64} (j : Nat) (hv : lv[j]? = some (i, .double x)) (hdg : decode cc pc = .ok (.dload i, 2)) (kk : G p l e R s m args below meth c D nL A Q ws lv cells slots g (pc + 2) (.double x :: st)) : G p l e R s m args below meth c D nL A Q ws lv cells slots g pc st := fun H locs hP hD hS hZ ls hl => lv_dload C.1 C.2.1 hdg (lv_at hl j hv) (kk H locs hP hD hS hZ ls hl)
theorem g_dload_n (C : Cx p s m args c D k A cc own nL) {n : Fin 4} {i : Nat} {x : UInt64} (j : Nat) (hi : (n : Nat) = i) (hv : lv[j]? = some (i, .double x)) (hdg : decode cc pc = .ok (.dload_n n, 1)) (kk : G p l e R s m args below meth c D nL A Q ws lv cells slots g (pc + 1) (.double x :: st)) : G p l e R s m args below meth c D nL A Q ws lv cells slots g pc st := fun H locs hP hD hS hZ ls hl => lv_dload_n C.1 C.2.1 hdg hi (lv_at hl j hv) (kk H locs hP hD hS hZ ls hl)
theorem g_iconst (C : Cx p s m args c D k A cc own nL) {n : Int} {v : Int32} (hv : Int32.ofInt n = v) (hdg : decode cc pc = .ok (.iconst n, 1)) (kk : G p l e R s m args below meth c D nL A Q ws lv cells slots g (pc + 1) (.int v :: st)) : G p l e R s m args below meth c D nL A Q ws lv cells slots g pc st := fun H locs hP hD hS hZ ls hl => lv_iconst C.1 C.2.1 hdg hv (kk H locs hP hD hS hZ ls hl)
theorem g_bipush (C : Cx p s m args c D k A cc own nL) {n : Int} {v : Int32} (hv : (Int8.ofInt n).toInt32 = v) (hdg : decode cc pc = .ok (.bipush n, 2)) (kk : G p l e R s m args below meth c D nL A Q ws lv cells slots g (pc + 2) (.int v :: st)) : G p l e R s m args below meth c D nL A Q ws lv cells slots g pc st := fun H locs hP hD hS hZ ls hl => lv_bipush C.1 C.2.1 hdg hv (kk H locs hP hD hS hZ ls hl)
theorem g_sipush (C : Cx p s m args c D k A cc own nL) {n : Int} {v : Int32} (hv : (Int16.ofInt n).toInt32 = v) (hdg : decode cc pc = .ok (.sipush n, 3)) (kk : G p l e R s m args below meth c D nL A Q ws lv cells slots g (pc + 3) (.int v :: st)) : G p l e R s m args below meth c D nL A Q ws lv cells slots g pc st := fun H locs hP hD hS hZ ls hl => lv_sipush C.1 C.2.1 hdg hv (kk H locs hP hD hS hZ ls hl)
theorem g_lconst (C : Cx p s m args c D k A cc own nL) {n : Fin 2} {v : Int64} (hv : Int64.ofNat (n : Nat) = v) (hdg : decode cc pc = .ok (.lconst n, 1)) (kk : G p l e R s m args below meth c D nL A Q ws lv cells slots g (pc + 1) (.long v :: st)) : G p l e R s m args below meth c D nL A Q ws lv cells slots g pc st := fun H locs hP hD hS hZ ls hl => lv_lconst C.1 C.2.1 hdg hv (kk H locs hP hD hS hZ ls hl)
theorem g_ldc (C : Cx p s m args c D k A cc own nL) {idx : Nat} {v : Int32} (hc : Cond.constant own idx v ∈ WG) (hdg : decode cc pc = .ok (.ldc idx, 2)) (kk : G p l e R s m args below meth c D nL A Q ws lv cells slots g (pc + 2) (.int v :: st)) : G p l e R s m args below meth c D nL A Q ws lv cells slots g pc st := fun H locs hP hD hS hZ ls hl => lv_ldc C.1 C.2.1 C.2.2.2.1 (C.2.2.2.2.1 _ hc) hdg (kk H locs hP hD hS hZ ls hl)
theorem g_ldcw (C : Cx p s m args c D k A cc own nL) {idx : Nat} {v : Int32} (hc : Cond.constant own idx v ∈ WG) (hdg : decode cc pc = .ok (.ldc_w idx, 3)) (kk : G p l e R s m args below meth c D nL A Q ws lv cells slots g (pc + 3) (.int v :: st)) : G p l e R s m args below meth c D nL A Q ws lv cells slots g pc st := fun H locs hP hD hS hZ ls hl => lv_ldcw C.1 C.2.1 C.2.2.2.1 (C.2.2.2.2.1 _ hc) hdg (kk H locs hP hD hS hZ ls hl)
theorem g_iadd (C : Cx p s m args c D k A cc own nL) {x y : Int32} (hdg : decode cc pc = .ok (.iadd, 1)) (kk : G p l e R s m args below meth c D nL A Q ws lv cells slots g (pc + 1) (.int (x + y) :: st)) : G p l e R s m args below meth c D nL A Q ws lv cells slots g pc (.int y :: .int x :: st) := fun H locs hP hD hS hZ ls hl => lv_iadd C.1 C.2.1 hdg (kk H locs hP hD hS hZ ls hl)
theorem g_isub (C : Cx p s m args c D k A cc own nL) {x y : Int32} (hdg : decode cc pc = .ok (.isub, 1)) (kk : G p l e R s m args below meth c D nL A Q ws lv cells slots g (pc + 1) (.int (x - y) :: st)) : G p l e R s m args below meth c D nL A Q ws lv cells slots g pc (.int y :: .int x :: st) := fun H locs hP hD hS hZ ls hl => lv_isub C.1 C.2.1 hdg (kk H locs hP hD hS hZ ls hl)
theorem g_imul (C : Cx p s m args c D k A cc own nL) {x y : Int32} (hdg : decode cc pc = .ok (.imul, 1)) (kk : G p l e R s m args below meth c D nL A Q ws lv cells slots g (pc + 1) (.int (x * y) :: st)) : G p l e R s m args below meth c D nL A Q ws lv cells slots g pc (.int y :: .int x :: st) := fun H locs hP hD hS hZ ls hl => lv_imul C.1 C.2.1 hdg (kk H locs hP hD hS hZ ls hl)
theorem g_iand (C : Cx p s m args c D k A cc own nL) {x y : Int32} (hdg : decode cc pc = .ok (.iand, 1)) (kk : G p l e R s m args below meth c D nL A Q ws lv cells slots g (pc + 1) (.int (x &&& y) :: st)) : G p l e R s m args below meth c D nL A Q ws lv cells slots g pc (.int y :: .int x :: st) := fun H locs hP hD hS hZ ls hl => lv_iand C.1 C.2.1 hdg (kk H locs hP hD hS hZ ls hl)
theorem g_ior (C : Cx p s m args c D k A cc own nL) {x y : Int32} (hdg : decode cc pc = .ok (.ior, 1)) (kk : G p l e R s m args below meth c D nL A Q ws lv cells slots g (pc + 1) (.int (x ||| y) :: st)) : G p l e R s m args below meth c D nL A Q ws lv cells slots g pc (.int y :: .int x :: st) := fun H locs hP hD hS hZ ls hl => lv_ior C.1 C.2.1 hdg (kk H locs hP hD hS hZ ls hl)
theorem g_ishl (C : Cx p s m args c D k A cc own nL) {x y : Int32} (hdg : decode cc pc = .ok (.ishl, 1)) (kk : G p l e R s m args below meth c D nL A Q ws lv cells slots g (pc + 1) (.int (x <<< (y &&& 31)) :: st)) : G p l e R s m args below meth c D nL A Q ws lv cells slots g pc (.int y :: .int x :: st) := fun H locs hP hD hS hZ ls hl => lv_ishl C.1 C.2.1 hdg (kk H locs hP hD hS hZ ls hl)
theorem g_ishr (C : Cx p s m args c D k A cc own nL) {x y : Int32} (hdg : decode cc pc = .ok (.ishr, 1)) (kk : G p l e R s m args below meth c D nL A Q ws lv cells slots g (pc + 1) (.int (x >>> (y &&& 31)) :: st)) : G p l e R s m args below meth c D nL A Q ws lv cells slots g pc (.int y :: .int x :: st) := fun H locs hP hD hS hZ ls hl => lv_ishr C.1 C.2.1 hdg (kk H locs hP hD hS hZ ls hl)
theorem g_idiv (C : Cx p s m args c D k A cc own nL) {x y : Int32} (hne : ¬ y = 0) (hdg : decode cc pc = .ok (.idiv, 1)) (kk : G p l e R s m args below meth c D nL A Q ws lv cells slots g (pc + 1) (.int (x / y) :: st)) : G p l e R s m args below meth c D nL A Q ws lv cells slots g pc (.int y :: .int x :: st) := fun H locs hP hD hS hZ ls hl => lv_idiv C.1 C.2.1 hdg hne (kk H locs hP hD hS hZ ls hl)
theorem g_irem (C : Cx p s m args c D k A cc own nL) {x y : Int32} (hne : ¬ y = 0) (hdg : decode cc pc = .ok (.irem, 1)) (kk : G p l e R s m args below meth c D nL A Q ws lv cells slots g (pc + 1) (.int (x - x / y * y) :: st)) : G p l e R s m args below meth c D nL A Q ws lv cells slots g pc (.int y :: .int x :: st) := fun H locs hP hD hS hZ ls hl => lv_irem C.1 C.2.1 hdg hne (kk H locs hP hD hS hZ ls hl)
theorem g_ineg (C : Cx p s m args c D k A cc own nL) {x : Int32} (hdg : decode cc pc = .ok (.ineg, 1)) (kk : G p l e R s m args below meth c D nL A Q ws lv cells slots g (pc + 1) (.int (-x) :: st)) : G p l e R s m args below meth c D nL A Q ws lv cells slots g pc (.int x :: st) := fun H locs hP hD hS hZ ls hl => lv_ineg C.1 C.2.1 hdg (kk H locs hP hD hS hZ ls hl)
theorem g_ladd (C : Cx p s m args c D k A cc own nL) {x y : Int64} (hdg : decode cc pc = .ok (.ladd, 1)) (kk : G p l e R s m args below meth c D nL A Q ws lv cells slots g (pc + 1) (.long (x + y) :: st)) : G p l e R s m args below meth c D nL A Q ws lv cells slots g pc (.long y :: .long x :: st) := fun H locs hP hD hS hZ ls hl => lv_ladd C.1 C.2.1 hdg (kk H locs hP hD hS hZ ls hl)
theorem g_lsub (C : Cx p s m args c D k A cc own nL) {x y : Int64} (hdg : decode cc pc = .ok (.lsub, 1)) (kk : G p l e R s m args below meth c D nL A Q ws lv cells slots g (pc + 1) (.long (x - y) :: st)) : G p l e R s m args below meth c D nL A Q ws lv cells slots g pc (.long y :: .long x :: st) := fun H locs hP hD hS hZ ls hl => lv_lsub C.1 C.2.1 hdg (kk H locs hP hD hS hZ ls hl)
theorem g_lmul (C : Cx p s m args c D k A cc own nL) {x y : Int64} (hdg : decode cc pc = .ok (.lmul, 1)) (kk : G p l e R s m args below meth c D nL A Q ws lv cells slots g (pc + 1) (.long (x * y) :: st)) : G p l e R s m args below meth c D nL A Q ws lv cells slots g pc (.long y :: .long x :: st) := fun H locs hP hD hS hZ ls hl => lv_lmul C.1 C.2.1 hdg (kk H locs hP hD hS hZ ls hl)
theorem g_i2l (C : Cx p s m args c D k A cc own nL) {x : Int32} (hdg : decode cc pc = .ok (.i2l, 1)) (kk : G p l e R s m args below meth c D nL A Q ws lv cells slots g (pc + 1) (.long x.toInt64 :: st)) : G p l e R s m args below meth c D nL A Q ws lv cells slots g pc (.int x :: st) := fun H locs hP hD hS hZ ls hl => lv_i2l C.1 C.2.1 hdg rfl (kk H locs hP hD hS hZ ls hl)
theorem g_dup (C : Cx p s m args c D k A cc own nL) {v : Value} (hv : v.category = 1) (hdg : decode cc pc = .ok (.dup, 1)) (kk : G p l e R s m args below meth c D nL A Q ws lv cells slots g (pc + 1) (v :: v :: st)) : G p l e R s m args below meth c D nL A Q ws lv cells slots g pc (v :: st) := fun H locs hP hD hS hZ ls hl => lv_dup C.1 C.2.1 hdg hv (kk H locs hP hD hS hZ ls hl)
theorem g_pop (C : Cx p s m args c D k A cc own nL) {v : Value} (hv : v.category = 1) (hdg : decode cc pc = .ok (.pop, 1)) (kk : G p l e R s m args below meth c D nL A Q ws lv cells slots g (pc + 1) st) : G p l e R s m args below meth c D nL A Q ws lv cells slots g pc (v :: st) := fun H locs hP hD hS hZ ls hl => lv_pop C.1 C.2.1 hdg hv (kk H locs hP hD hS hZ ls hl)
theorem g_dup2 (C : Cx p s m args c D k A cc own nL) {v u : Value} (hv : v.category = 1) (hu : u.category = 1) (hdg : decode cc pc = .ok (.dup2, 1)) (kk : G p l e R s m args below meth c D nL A Q ws lv cells slots g (pc + 1) (v :: u :: v :: u :: st)) : G p l e R s m args below meth c D nL A Q ws lv cells slots g pc (v :: u :: st) := fun H locs hP hD hS hZ ls hl => lv_dup2_11 C.1 C.2.1 hdg hv hu (kk H locs hP hD hS hZ ls hl)
theorem g_null (C : Cx p s m args c D k A cc own nL)  (hdg : decode cc pc = .ok (.aconst_null, 1)) (kk : G p l e R s m args below meth c D nL A Q ws lv cells slots g (pc + 1) (.null :: st)) : G p l e R s m args below meth c D nL A Q ws lv cells slots g pc st := fun H locs hP hD hS hZ ls hl => lv_null C.1 C.2.1 hdg (kk H locs hP hD hS hZ ls hl)
theorem g_istore (C : Cx p s m args c D k A cc own nL) {i : Nat} {x : Int32} (lv' : List (Nat × Value)) (hdg : decode cc pc = .ok (.istore i, 2)) (hn : i < nL) (hf : (i, Value.int x) :: lv.filter (fun q => !(q.1 == i) && !(q.1 + 1 == i && q.2.category == 2)) = lv') (kk : G p l e R s m args below meth c D nL A Q ws lv' cells slots g (pc + 2) st) : G p l e R s m args below meth c D nL A Q ws lv cells slots g pc (.int x :: st) := fun H locs hP hD hS hZ ls hl => lv_istore C.1 C.2.1 hdg hl hn hf (fun ls hl => kk H locs hP hD hS hZ ls hl)
theorem g_istore_n (C : Cx p s m args c D k A cc own nL) {n : Fin 4} {i : Nat} {x : Int32} (lv' : List (Nat × Value)) (hi : (n : Nat) = i) (hdg : decode cc pc = .ok (.istore_n n, 1)) (hn : i < nL) (hf : (i, Value.int x) :: lv.filter (fun q => !(q.1 == i) && !(q.1 + 1 == i && q.2.category == 2)) = lv') (kk : G p l e R s m args below meth c D nL A Q ws lv' cells slots g (pc + 1) st) : G p l e R s m args below meth c D nL A Q ws lv cells slots g pc (.int x :: st) := fun H locs hP hD hS hZ ls hl => lv_istore_n C.1 C.2.1 hdg hi hl hn hf (fun ls hl => kk H locs hP hD hS hZ ls hl)
theorem g_astore (C : Cx p s m args c D k A cc own nL) {i : Nat} {x : Nat} (lv' : List (Nat × Value)) (hdg : decode cc pc = .ok (.astore i, 2)) (hn : i < nL) (hf : (i, Value.ref x) :: lv.filter (fun q => !(q.1 == i) && !(q.1 + 1 == i && q.2.category == 2)) = lv') (kk : G p l e R s m args below meth c D nL A Q ws lv' cells slots g (pc + 2) st) : G p l e R s m args below meth c D nL A Q ws lv cells slots g pc (.ref x :: st) := fun H locs hP hD hS hZ ls hl => lv_astore C.1 C.2.1 hdg hl hn hf (fun ls hl => kk H locs hP hD hS hZ ls hl)
theorem g_astore_n (C : Cx p s m args c D k A cc own nL) {n : Fin 4} {i : Nat} {x : Nat} (lv' : List (Nat × Value)) (hi : (n : Nat) = i) (hdg : decode cc pc = .ok (.astore_n n, 1)) (hn : i < nL) (hf : (i, Value.ref x) :: lv.filter (fun q => !(q.1 == i) && !(q.1 + 1 == i && q.2.category == 2)) = lv') (kk : G p l e R s m args below meth c D nL A Q ws lv' cells slots g (pc + 1) st) : G p l e R s m args below meth c D nL A Q ws lv cells slots g pc (.ref x :: st) := fun H locs hP hD hS hZ ls hl => lv_astore_n C.1 C.2.1 hdg hi hl hn hf (fun ls hl => kk H locs hP hD hS hZ ls hl)
theorem g_iinc (C : Cx p s m args c D k A cc own nL) {i : Nat} {n : Int} {x v : Int32} (j : Nat) (lv' : List (Nat × Value)) (hk : lv[j]? = some (i, .int x)) (hv : x + Int32.ofInt n = v) (hdg : decode cc pc = .ok (.iinc i n, 3)) (hn : i < nL) (hf : (i, Value.int v) :: lv.filter (fun q => !(q.1 == i) && !(q.1 + 1 == i && q.2.category == 2)) = lv') (kk : G p l e R s m args below meth c D nL A Q ws lv' cells slots g (pc + 3) st) : G p l e R s m args below meth c D nL A Q ws lv cells slots g pc st := fun H locs hP hD hS hZ ls hl => lv_iinc C.1 C.2.1 hdg hl hk hv hn hf (fun ls hl => kk H locs hP hD hS hZ ls hl)
theorem g_goto (C : Cx p s m args c D k A cc own nL) {off : Int} (tgt : Nat) (ht : (pc : Int) + off = (tgt : Int)) (hdg : decode cc pc = .ok (.goto off, 3)) (kk : G p l e R s m args below meth c D nL A Q ws lv cells slots g tgt st) : G p l e R s m args below meth c D nL A Q ws lv cells slots g pc st := fun H locs hP hD hS hZ ls hl => lv_goto C.1 C.2.1 hdg ht (kk H locs hP hD hS hZ ls hl)
theorem g_if_eq (C : Cx p s m args c D k A cc own nL) {x : Int32} {off : Int} (tgt : Nat) (ht : (pc : Int) + off = (tgt : Int)) (hdg : decode cc pc = .ok (.ifCond .eq off, 3)) (kt : x = 0 → G p l e R s m args below meth c D nL A Q ws lv cells slots g tgt st) (kf : ¬ x = 0 → G p l e R s m args below meth c D nL A Q ws lv cells slots g (pc + 3) st) : G p l e R s m args below meth c D nL A Q ws lv cells slots g pc (.int x :: st) := fun H locs hP hD hS hZ ls hl => lv_if_eq C.1 C.2.1 hdg ht (fun h => kt h H locs hP hD hS hZ ls hl) (fun h => kf h H locs hP hD hS hZ ls hl)
theorem g_if_ne (C : Cx p s m args c D k A cc own nL) {x : Int32} {off : Int} (tgt : Nat) (ht : (pc : Int) + off = (tgt : Int)) (hdg : decode cc pc = .ok (.ifCond .ne off, 3)) (kt : ¬ x = 0 → G p l e R s m args below meth c D nL A Q ws lv cells slots g tgt st) (kf : x = 0 → G p l e R s m args below meth c D nL A Q ws lv cells slots g (pc + 3) st) : G p l e R s m args below meth c D nL A Q ws lv cells slots g pc (.int x :: st) := fun H locs hP hD hS hZ ls hl => lv_if_ne C.1 C.2.1 hdg ht (fun h => kt h H locs hP hD hS hZ ls hl) (fun h => kf h H locs hP hD hS hZ ls hl)
theorem g_if_lt (C : Cx p s m args c D k A cc own nL) {x : Int32} {off : Int} (tgt : Nat) (ht : (pc : Int) + off = (tgt : Int)) (hdg : decode cc pc = .ok (.ifCond .lt off, 3)) (kt : x < 0 → G p l e R s m args below meth c D nL A Q ws lv cells slots g tgt st) (kf : ¬ x < 0 → G p l e R s m args below meth c D nL A Q ws lv cells slots g (pc + 3) st) : G p l e R s m args below meth c D nL A Q ws lv cells slots g pc (.int x :: st) := fun H locs hP hD hS hZ ls hl => lv_if_lt C.1 C.2.1 hdg ht (fun h => kt h H locs hP hD hS hZ ls hl) (fun h => kf h H locs hP hD hS hZ ls hl)
theorem g_if_ge (C : Cx p s m args c D k A cc own nL) {x : Int32} {off : Int} (tgt : Nat) (ht : (pc : Int) + off = (tgt : Int)) (hdg : decode cc pc = .ok (.ifCond .ge off, 3)) (kt : 0 ≤ x → G p l e R s m args below meth c D nL A Q ws lv cells slots g tgt st) (kf : ¬ 0 ≤ x → G p l e R s m args below meth c D nL A Q ws lv cells slots g (pc + 3) st) : G p l e R s m args below meth c D nL A Q ws lv cells slots g pc (.int x :: st) := fun H locs hP hD hS hZ ls hl => lv_if_ge C.1 C.2.1 hdg ht (fun h => kt h H locs hP hD hS hZ ls hl) (fun h => kf h H locs hP hD hS hZ ls hl)
theorem g_if_gt (C : Cx p s m args c D k A cc own nL) {x : Int32} {off : Int} (tgt : Nat) (ht : (pc : Int) + off = (tgt : Int)) (hdg : decode cc pc = .ok (.ifCond .gt off, 3)) (kt : 0 < x → G p l e R s m args below meth c D nL A Q ws lv cells slots g tgt st) (kf : ¬ 0 < x → G p l e R s m args below meth c D nL A Q ws lv cells slots g (pc + 3) st) : G p l e R s m args below meth c D nL A Q ws lv cells slots g pc (.int x :: st) := fun H locs hP hD hS hZ ls hl => lv_if_gt C.1 C.2.1 hdg ht (fun h => kt h H locs hP hD hS hZ ls hl) (fun h => kf h H locs hP hD hS hZ ls hl)
theorem g_if_le (C : Cx p s m args c D k A cc own nL) {x : Int32} {off : Int} (tgt : Nat) (ht : (pc : Int) + off = (tgt : Int)) (hdg : decode cc pc = .ok (.ifCond .le off, 3)) (kt : x ≤ 0 → G p l e R s m args below meth c D nL A Q ws lv cells slots g tgt st) (kf : ¬ x ≤ 0 → G p l e R s m args below meth c D nL A Q ws lv cells slots g (pc + 3) st) : G p l e R s m args below meth c D nL A Q ws lv cells slots g pc (.int x :: st) := fun H locs hP hD hS hZ ls hl => lv_if_le C.1 C.2.1 hdg ht (fun h => kt h H locs hP hD hS hZ ls hl) (fun h => kf h H locs hP hD hS hZ ls hl)
theorem g_icmp_eq (C : Cx p s m args c D k A cc own nL) {x y : Int32} {off : Int} (tgt : Nat) (ht : (pc : Int) + off = (tgt : Int)) (hdg : decode cc pc = .ok (.if_icmp .eq off, 3)) (kt : x = y → G p l e R s m args below meth c D nL A Q ws lv cells slots g tgt st) (kf : ¬ x = y → G p l e R s m args below meth c D nL A Q ws lv cells slots g (pc + 3) st) : G p l e R s m args below meth c D nL A Q ws lv cells slots g pc (.int y :: .int x :: st) := fun H locs hP hD hS hZ ls hl => lv_icmp_eq C.1 C.2.1 hdg ht (fun h => kt h H locs hP hD hS hZ ls hl) (fun h => kf h H locs hP hD hS hZ ls hl)
theorem g_icmp_ne (C : Cx p s m args c D k A cc own nL) {x y : Int32} {off : Int} (tgt : Nat) (ht : (pc : Int) + off = (tgt : Int)) (hdg : decode cc pc = .ok (.if_icmp .ne off, 3)) (kt : ¬ x = y → G p l e R s m args below meth c D nL A Q ws lv cells slots g tgt st) (kf : x = y → G p l e R s m args below meth c D nL A Q ws lv cells slots g (pc + 3) st) : G p l e R s m args below meth c D nL A Q ws lv cells slots g pc (.int y :: .int x :: st) := fun H locs hP hD hS hZ ls hl => lv_icmp_ne C.1 C.2.1 hdg ht (fun h => kt h H locs hP hD hS hZ ls hl) (fun h => kf h H locs hP hD hS hZ ls hl)
theorem g_icmp_lt (C : Cx p s m args c D k A cc own nL) {x y : Int32} {off : Int} (tgt : Nat) (ht : (pc : Int) + off = (tgt : Int)) (hdg : decode cc pc = .ok (.if_icmp .lt off, 3)) (kt : x < y → G p l e R s m args below meth c D nL A Q ws lv cells slots g tgt st) (kf : ¬ x < y → G p l e R s m args below meth c D nL A Q ws lv cells slots g (pc + 3) st) : G p l e R s m args below meth c D nL A Q ws lv cells slots g pc (.int y :: .int x :: st) := fun H locs hP hD hS hZ ls hl => lv_icmp_lt C.1 C.2.1 hdg ht (fun h => kt h H locs hP hD hS hZ ls hl) (fun h => kf h H locs hP hD hS hZ ls hl)
theorem g_icmp_ge (C : Cx p s m args c D k A cc own nL) {x y : Int32} {off : Int} (tgt : Nat) (ht : (pc : Int) + off = (tgt : Int)) (hdg : decode cc pc = .ok (.if_icmp .ge off, 3)) (kt : y ≤ x → G p l e R s m args below meth c D nL A Q ws lv cells slots g tgt st) (kf : ¬ y ≤ x → G p l e R s m args below meth c D nL A Q ws lv cells slots g (pc + 3) st) : G p l e R s m args below meth c D nL A Q ws lv cells slots g pc (.int y :: .int x :: st) := fun H locs hP hD hS hZ ls hl => lv_icmp_ge C.1 C.2.1 hdg ht (fun h => kt h H locs hP hD hS hZ ls hl) (fun h => kf h H locs hP hD hS hZ ls hl)
theorem g_icmp_gt (C : Cx p s m args c D k A cc own nL) {x y : Int32} {off : Int} (tgt : Nat) (ht : (pc : Int) + off = (tgt : Int)) (hdg : decode cc pc = .ok (.if_icmp .gt off, 3)) (kt : y < x → G p l e R s m args below meth c D nL A Q ws lv cells slots g tgt st) (kf : ¬ y < x → G p l e R s m args below meth c D nL A Q ws lv cells slots g (pc + 3) st) : G p l e R s m args below meth c D nL A Q ws lv cells slots g pc (.int y :: .int x :: st) := fun H locs hP hD hS hZ ls hl => lv_icmp_gt C.1 C.2.1 hdg ht (fun h => kt h H locs hP hD hS hZ ls hl) (fun h => kf h H locs hP hD hS hZ ls hl)
theorem g_icmp_le (C : Cx p s m args c D k A cc own nL) {x y : Int32} {off : Int} (tgt : Nat) (ht : (pc : Int) + off = (tgt : Int)) (hdg : decode cc pc = .ok (.if_icmp .le off, 3)) (kt : x ≤ y → G p l e R s m args below meth c D nL A Q ws lv cells slots g tgt st) (kf : ¬ x ≤ y → G p l e R s m args below meth c D nL A Q ws lv cells slots g (pc + 3) st) : G p l e R s m args below meth c D nL A Q ws lv cells slots g pc (.int y :: .int x :: st) := fun H locs hP hD hS hZ ls hl => lv_icmp_le C.1 C.2.1 hdg ht (fun h => kt h H locs hP hD hS hZ ls hl) (fun h => kf h H locs hP hD hS hZ ls hl)
theorem S_rf {A : Nat → Prop} {H0 H : Heap} {locs : List Loc} (h : va_S A H0 H locs) : va_S A H H locs := ⟨Nat.le_refl _, fun _ _ _ => rfl, h.2.2⟩
theorem S_tr {A : Nat → Prop} {H0 H H1 : Heap} {locs locs1 : List Loc} (h : va_S A H0 H locs) (h2 : va_S A H H1 locs1) : va_S A H0 H1 locs1 := ⟨Nat.le_trans h.1 h2.1, fun q hq hn => (h2.2.1 q (Nat.lt_of_lt_of_le hq h.1) hn).trans (h.2.1 q hq hn), h2.2.2⟩
theorem g_get (C : Cx p s m args c D k A cc own nL) {ref Cn : String} {T : u_T} {N ci idx a : Nat} {fs : List Value} (hin : ∀ w ∈ u_ws Cn T N, w ∈ WG) (q0 : Nat) (he : ws[q0]? = some (a, .inr (ci, fs))) (hc : vwCl[ci]? = some (Cn, T, N)) (kf : Nat) (hk : kf < N) (hlink : Cond.fieldLink own idx ref (T kf).2.1 (T kf).2.2.1 ∈ WG) (hsame : (T kf).1 = ref) {v : Value} (hv : fs[kf]? = some v) (hdg : decode cc pc = .ok (.getfield idx, 3)) (kk : G p l e R s m args below meth c D nL A Q ws lv cells slots g (pc + 3) (v :: st)) : G p l e R s m args below meth c D nL A Q ws lv cells slots g pc (.ref a :: st) := fun H locs hP hD hS hZ ls hl => va_get C.1 C.2.1 C.2.2.2.2.1 hin C.2.2.2.1 C.2.2.2.2.2.1 hP q0 he hc kf hk (C.2.2.2.2.1 _ hlink) (fun x h => by rw [← hsame]; exact h) hv hdg (kk H locs hP hD hS hZ ls hl)
theorem g_getN (C : Cx p s m args c D k A cc own nL) {ref Cn host : String} {T : u_T} {N ci idx a : Nat} {fs : List Value} (hin : ∀ w ∈ u_ws Cn T N, w ∈ WG) (q0 : Nat) (he : ws[q0]? = some (a, .inr (ci, fs))) (hc : vwCl[ci]? = some (Cn, T, N)) (kf : Nat) (hk : kf < N) (hlink : Cond.fieldLinkNest own idx ref (T kf).2.1 (T kf).2.2.1 host ∈ WG) (hsame : (T kf).1 = ref) {v : Value} (hv : fs[kf]? = some v) (hdg : decode cc pc = .ok (.getfield idx, 3)) (kk : G p l e R s m args below meth c D nL A Q ws lv cells slots g (pc + 3) (v :: st)) : G p l e R s m args below meth c D nL A Q ws lv cells slots g pc (.ref a :: st) := fun H locs hP hD hS hZ ls hl => va_getN C.1 C.2.1 C.2.2.2.2.1 hin C.2.2.2.1 C.2.2.2.2.2.1 hP q0 he hc kf hk (C.2.2.2.2.1 _ hlink) (fun x h => by rw [← hsame]; exact h) hv hdg (kk H locs hP hD hS hZ ls hl)
theorem g_put (C : Cx p s m args c D k A cc own nL) {ref Cn : String} {T : u_T} {N ci idx a : Nat} {fs : List Value} (hin : ∀ w ∈ u_ws Cn T N, w ∈ WG) (q0 : Nat) (he : ws[q0]? = some (a, .inr (ci, fs))) (hc : vwCl[ci]? = some (Cn, T, N)) (kf : Nat) (hk : kf < N) (hlink : Cond.fieldLink own idx ref (T kf).2.1 (T kf).2.2.1 ∈ WG) (hsame : (T kf).1 = ref) (ty0 : Nat → FieldType) (hty : ∀ i, i < N → parseFieldDescriptor (T i).2.2.1 = some (ty0 i)) (hnm : ∀ a, a < N → ∀ b, b < N → a ≠ b → (T a).2.1 ≠ (T b).2.1) (hfin : (T kf).2.2.2 = false) {ty : FieldType} {v : Value} (ws' : va_W) (hd : parseFieldDescriptor (T kf).2.2.1 = some ty) (hnr : narrow ty v = v) (hfit : fits ty v = true) (hl0 : kf < fs.length) (hw : ws.set q0 (a, .inr (ci, fs.set kf v)) = ws') (hdg : decode cc pc = .ok (.putfield idx, 3)) (kk : G p l e R s m args below meth c D nL A Q ws' lv cells slots g (pc + 3) st) : G p l e R s m args below meth c D nL A Q ws lv cells slots g pc (v :: .ref a :: st) := by
  subst hw
  intro H locs hP hD hS hZ ls hl
  exact va_put C.1 C.2.1 C.2.2.2.2.1 hin ty0 hty hnm C.2.2.2.1 C.2.2.2.2.2.1 hP hD (S_rf hS) q0 he hc kf hk (C.2.2.2.2.1 _ hlink) (fun x h => by rw [← hsame]; exact h) hfin hd hnr hfit hl0 hdg (fun H1 locs1 hP1 hD1 hS1 => kk H1 locs1 hP1 hD1 (S_tr hS hS1) (Nat.le_trans hZ hS1.1) ls hl)
theorem g_putF (C : Cx p s m args c D k A cc own nL) {ref Cn : String} {T : u_T} {N ci idx a : Nat} {fs : List Value} (hin : ∀ w ∈ u_ws Cn T N, w ∈ WG) (q0 : Nat) (he : ws[q0]? = some (a, .inr (ci, fs))) (hc : vwCl[ci]? = some (Cn, T, N)) (kf : Nat) (hk : kf < N) (hlink : Cond.fieldLink own idx ref (T kf).2.1 (T kf).2.2.1 ∈ WG) (hsame : (T kf).1 = ref) (ty0 : Nat → FieldType) (hty : ∀ i, i < N → parseFieldDescriptor (T i).2.2.1 = some (ty0 i)) (hnm : ∀ a, a < N → ∀ b, b < N → a ≠ b → (T a).2.1 ≠ (T b).2.1) (hfin : (T kf).2.2.2 = true) (hin2 : meth.name = "<init>") (hdecl : (T kf).1 = own) {ty : FieldType} {v : Value} (ws' : va_W) (hd : parseFieldDescriptor (T kf).2.2.1 = some ty) (hnr : narrow ty v = v) (hfit : fits ty v = true) (hl0 : kf < fs.length) (hw : ws.set q0 (a, .inr (ci, fs.set kf v)) = ws') (hdg : decode cc pc = .ok (.putfield idx, 3)) (kk : G p l e R s m args below meth c D nL A Q ws' lv cells slots g (pc + 3) st) : G p l e R s m args below meth c D nL A Q ws lv cells slots g pc (v :: .ref a :: st) := by
  subst hw
  intro H locs hP hD hS hZ ls hl
  exact va_putF C.1 C.2.1 C.2.2.2.2.1 hin ty0 hty hnm C.2.2.2.1 C.2.2.2.2.2.1 hP hD (S_rf hS) q0 he hc kf hk (C.2.2.2.2.1 _ hlink) (fun x h => by rw [← hsame]; exact h) hfin hin2 hdecl hd hnr hfit hl0 hdg (fun H1 locs1 hP1 hD1 hS1 => kk H1 locs1 hP1 hD1 (S_tr hS hS1) (Nat.le_trans hZ hS1.1) ls hl)
theorem g_putN (C : Cx p s m args c D k A cc own nL) {ref Cn host : String} {T : u_T} {N ci idx a : Nat} {fs : List Value} (hin : ∀ w ∈ u_ws Cn T N, w ∈ WG) (q0 : Nat) (he : ws[q0]? = some (a, .inr (ci, fs))) (hc : vwCl[ci]? = some (Cn, T, N)) (kf : Nat) (hk : kf < N) (hlink : Cond.fieldLinkNest own idx ref (T kf).2.1 (T kf).2.2.1 host ∈ WG) (hsame : (T kf).1 = ref) (ty0 : Nat → FieldType) (hty : ∀ i, i < N → parseFieldDescriptor (T i).2.2.1 = some (ty0 i)) (hnm : ∀ a, a < N → ∀ b, b < N → a ≠ b → (T a).2.1 ≠ (T b).2.1) (hfin : (T kf).2.2.2 = false) {ty : FieldType} {v : Value} (ws' : va_W) (hd : parseFieldDescriptor (T kf).2.2.1 = some ty) (hnr : narrow ty v = v) (hfit : fits ty v = true) (hl0 : kf < fs.length) (hw : ws.set q0 (a, .inr (ci, fs.set kf v)) = ws') (hdg : decode cc pc = .ok (.putfield idx, 3)) (kk : G p l e R s m args below meth c D nL A Q ws' lv cells slots g (pc + 3) st) : G p l e R s m args below meth c D nL A Q ws lv cells slots g pc (v :: .ref a :: st) := by
  subst hw
  intro H locs hP hD hS hZ ls hl
  exact va_putN C.1 C.2.1 C.2.2.2.2.1 hin ty0 hty hnm C.2.2.2.1 C.2.2.2.2.2.1 hP hD (S_rf hS) q0 he hc kf hk (C.2.2.2.2.1 _ hlink) (fun x h => by rw [← hsame]; exact h) hfin hd hnr hfit hl0 hdg (fun H1 locs1 hP1 hD1 hS1 => kk H1 locs1 hP1 hD1 (S_tr hS hS1) (Nat.le_trans hZ hS1.1) ls hl)
theorem g_iald (C : Cx p s m args c D k A cc own nL) {a n : Nat} {f : Nat → Int32} (q0 : Nat) (ha : ws[q0]? = some (a, aI k n f)) {i : Int32} (hi : vp_in i n) (hdg : decode cc pc = .ok (.iaload, 1)) (kk : G p l e R s m args below meth c D nL A Q ws lv cells slots g (pc + 1) (.int (f i.toNatClampNeg) :: st)) : G p l e R s m args below meth c D nL A Q ws lv cells slots g pc (.int i :: .ref a :: st) := fun H locs hP hD hS hZ ls hl => va_iald C.1 C.2.1 C.2.2.2.2.2.1 hP q0 0 ha rfl hi hdg (kk H locs hP hD hS hZ ls hl)
theorem g_iast (C : Cx p s m args c D k A cc own nL) {a n : Nat} {f : Nat → Int32} (q0 : Nat) (ws' : va_W) (ha : ws[q0]? = some (a, aI k n f)) {i x : Int32} (hi : vp_in i n) (hw : ws.set q0 (a, aI k n (upd f i.toNatClampNeg x)) = ws') (hdg : decode cc pc = .ok (.iastore, 1)) (kk : G p l e R s m args below meth c D nL A Q ws' lv cells slots g (pc + 1) st) : G p l e R s m args below meth c D nL A Q ws lv cells slots g pc (.int x :: .int i :: .ref a :: st) := by
  subst hw
  intro H locs hP hD hS hZ ls hl
  exact va_iast C.1 C.2.1 C.2.2.2.2.2.1 hP hD (S_rf hS) q0 0 ha rfl hi hdg (fun H1 locs1 hP1 hD1 hS1 => kk H1 locs1 hP1 hD1 (S_tr hS hS1) (Nat.le_trans hZ hS1.1) ls hl)
theorem g_alen (C : Cx p s m args c D k A cc own nL) {a t0 : Nat} {cA : ClassId} {x : vp_A} {ty : FieldType} (q0 : Nat) (ha : ws[q0]? = some (a, .inl (cA, x))) (ht : (tyG k)[t0]? = some (cA, ty)) {v : Int32} (hv : Int32.ofNat x.1 = v) (hdg : decode cc pc = .ok (.arraylength, 1)) (kk : G p l e R s m args below meth c D nL A Q ws lv cells slots g (pc + 1) (.int v :: st)) : G p l e R s m args below meth c D nL A Q ws lv cells slots g pc (.ref a :: st) := fun H locs hP hD hS hZ ls hl => va_alen C.1 C.2.1 C.2.2.2.2.2.1 hP q0 t0 ha ht hv hdg (kk H locs hP hD hS hZ ls hl)
theorem g_new (C : Cx p s m args c D k A cc own nL) {Cn : String} {T : u_T} {N ci idx : Nat} (fs : List Value) (hin : ∀ w ∈ u_ws Cn T N, w ∈ WG) (ty0 : Nat → FieldType) (hty : ∀ i, i < N → parseFieldDescriptor (T i).2.2.1 = some (ty0 i)) (hlink : Cond.classLink own idx Cn ∈ WG) (hins : Cond.instantiable Cn N ∈ WG) (hini : Cond.initialized Cn ∈ WG) (hc : vwCl[ci]? = some (Cn, T, N)) (hfs : ∀ j, j < N → defaultValue (ty0 j) = vp_V fs j) (hcells : cells + 1 ≤ R.cells) (hslots : slots + N ≤ R.slots) (hdg : decode cc pc = .ok (.new idx, 3))
    (kk : ∀ q : Nat, G p l e R s m args below meth c D nL A Q (ws ++ [(q, .inr (ci, fs))]) lv (cells + 1) (slots + N) (g + 1) (pc + 3) (.ref q :: st)) : G p l e R s m args below meth c D nL A Q ws lv cells slots g pc st := by
  intro H locs hP hD hS hZ ls hl
  have hTs := C.2.2.2.2.1
  have hKn := C.2.2.2.2.2.1.1 ci _ hc
  refine W.newcK C.1 C.2.1 C.2.2.2.1 (hTs _ hlink) (hTs _ hins) (hTs _ hini) rfl hdg hcells hslots hKn.2.1 rfl fun H1 kC hkC e1 z1 o1 => ?_
  have hk : ∀ (i : Nat) (x : Nat × va_E), ws[i]? = some x → H1[x.1]? = H[x.1]? := fun i x hx => o1 x.1 ((hP i x hx).lt)
  refine kk H.size H1 locs ((hP.kept hk).app (fun i x hx => ?_)) (hD.push hP rfl (C.2.2.2.2.2.2.1 _ hS.1)) ⟨Nat.le_trans hS.1 (by omega), fun x h1 h2 => (o1 x (Nat.lt_of_lt_of_le h1 hS.1)).trans (hS.2.1 x h1 h2), hS.2.2⟩ (by omega) ls hl
  have hz : i < 1 := (List.getElem?_eq_some_iff.mp hx).1
  rw [show i = 0 by omega] at hx
  cases hx
  exact ⟨_, hc, (u_born ty0 hTs hin hKn hkC e1 hty).to hfs⟩
theorem g_newa (C : Cx p s m args c D k A cc own nL) {atype : ArrayType} (t0 : Nat) {cA : ClassId} {a0 : vp_A} (ht : (tyG k)[t0]? = some (cA, newarray.typeOf atype)) (hra : va_RA s cA (newarray.typeOf atype) = (s.vm.findClass ("[" ++ (newarray.typeOf atype).toString) = some cA)) (harr : Cond.arrayClass (newarray.typeOf atype) ∈ WG) {n : Int32} {N : Nat} (ha : vp_cell cA a0 = arrV cA N (fun _ => defaultValue (newarray.typeOf atype))) (hn : ¬ n < 0) (hN : n.toNatClampNeg = N) (hby : N * componentBytes (newarray.typeOf atype) ≤ 536870912) (hcells : cells + 1 ≤ R.cells) (hslots : slots + N ≤ R.slots) (hdg : decode cc pc = .ok (.newarray atype, 2))
    (kk : ∀ q : Nat, G p l e R s m args below meth c D nL A Q (ws ++ [(q, .inl (cA, a0))]) lv (cells + 1) (slots + N) (g + 1) (pc + 2) (.ref q :: st)) : G p l e R s m args below meth c D nL A Q ws lv cells slots g pc (.int n :: st) := by
  intro H locs hP hD hS hZ ls hl
  have hTs := C.2.2.2.2.1
  refine va_newaK C.1 C.2.1 (hTs _ harr) rfl hdg rfl hn hN hby hcells hslots rfl fun H1 cB e1 z1 o1 hAr hNm => ?_
  have h1 := (C.2.2.2.2.2.1.2 t0 _ ht).2
  rw [hra] at h1
  have hcc : cB = cA := Option.some.inj (hNm.symm.trans h1)
  subst hcc
  have hk : ∀ (i : Nat) (x : Nat × va_E), ws[i]? = some x → H1[x.1]? = H[x.1]? := fun i x hx => o1 x.1 ((hP i x hx).lt)
  refine kk H.size H1 locs ((hP.kept hk).app (fun i x hx => ?_)) (hD.push hP rfl (C.2.2.2.2.2.2.1 _ hS.1)) ⟨Nat.le_trans hS.1 (by omega), fun x h1 h2 => (o1 x (Nat.lt_of_lt_of_le h1 hS.1)).trans (hS.2.1 x h1 h2), hS.2.2⟩ (by omega) ls hl
  have hz : i < 1 := (List.getElem?_eq_some_iff.mp hx).1
  rw [show i = 0 by omega] at hx
  cases hx
  show H1[H.size]? = some (vp_cell _ _)
  rw [ha]
  exact e1
theorem g_newI (C : Cx p s m args c D k A cc own nL) (N : Nat) {n : Int32} (harr : Cond.arrayClass .int ∈ WG) (hn : ¬ n < 0) (hN : n.toNatClampNeg = N) (hN2 : N ≤ 67108864) (hcells : cells + 1 ≤ R.cells) (hslots : slots + N ≤ R.slots) (hdg : decode cc pc = .ok (.newarray .int, 2))
    (kk : ∀ q : Nat, G p l e R s m args below meth c D nL A Q (ws ++ [(q, .inl (k 0, N, .inl (fun _ => 0)))]) lv (cells + 1) (slots + N) (g + 1) (pc + 2) (.ref q :: st)) : G p l e R s m args below meth c D nL A Q ws lv cells slots g pc (.int n :: st) :=
  g_newa (atype := .int) C 0 rfl rfl harr (a0 := (N, .inl (fun _ => 0))) rfl hn hN (by simp only [newarray.typeOf, componentBytes]; omega) hcells hslots hdg kk
theorem g_newJ (C : Cx p s m args c D k A cc own nL) (N : Nat) {n : Int32} (harr : Cond.arrayClass .long ∈ WG) (hn : ¬ n < 0) (hN : n.toNatClampNeg = N) (hN2 : N ≤ 67108864) (hcells : cells + 1 ≤ R.cells) (hslots : slots + N ≤ R.slots) (hdg : decode cc pc = .ok (.newarray .long, 2))
    (kk : ∀ q : Nat, G p l e R s m args below meth c D nL A Q (ws ++ [(q, .inl (k 1, N, .inr (.inl (fun _ => 0))))]) lv (cells + 1) (slots + N) (g + 1) (pc + 2) (.ref q :: st)) : G p l e R s m args below meth c D nL A Q ws lv cells slots g pc (.int n :: st) :=
  g_newa (atype := .long) C 1 rfl rfl harr (a0 := (N, .inr (.inl (fun _ => 0)))) rfl hn hN (by simp only [newarray.typeOf, componentBytes]; omega) hcells hslots hdg kk
theorem g_newZ (C : Cx p s m args c D k A cc own nL) (N : Nat) {n : Int32} (harr : Cond.arrayClass .boolean ∈ WG) (hn : ¬ n < 0) (hN : n.toNatClampNeg = N) (hN2 : N ≤ 67108864) (hcells : cells + 1 ≤ R.cells) (hslots : slots + N ≤ R.slots) (hdg : decode cc pc = .ok (.newarray .boolean, 2))
    (kk : ∀ q : Nat, G p l e R s m args below meth c D nL A Q (ws ++ [(q, .inl (k 2, N, .inl (fun _ => 0)))]) lv (cells + 1) (slots + N) (g + 1) (pc + 2) (.ref q :: st)) : G p l e R s m args below meth c D nL A Q ws lv cells slots g pc (.int n :: st) :=
  g_newa (atype := .boolean) C 2 rfl rfl harr (a0 := (N, .inl (fun _ => 0))) rfl hn hN (by simp only [newarray.typeOf, componentBytes]; omega) hcells hslots hdg kk
theorem g_obj (C : Cx p s m args c D k A cc own nL) {idx a : Nat} (hlink : Cond.methodLink own idx Lib.objectInit ∈ WG) (hinst : Cond.instanceMethod Lib.objectInit ∈ WG) (hcode : Cond.code Lib.objectInit ⟨#[0xb1]⟩ 1 none ∈ WG) (hfr : 1 ≤ R.frames) (hlo : (st.map fun v => v.category).sum + 12 ≤ R.locals) (hdg : decode cc pc = .ok (.invokespecial idx, 3)) (kk : G p l e R s m args below meth c D nL A Q ws lv cells slots g (pc + 3) st) : G p l e R s m args below meth c D nL A Q ws lv cells slots g pc (.ref a :: st) := by
  intro H locs hP hD hS hZ ls hl
  have hTs := C.2.2.2.2.1
  exact W.objInit C.1 C.2.1 C.2.2.2.1 (hTs _ hlink) (hTs _ hinst) (hTs _ hcode) rfl (by rw [C.2.2.1]; exact hl.1) rfl hdg hfr (by have h0 : (F0 m pc ls (.ref a :: st)).monitorRoom = 0 := rfl; omega) (kk H locs hP hD hS hZ ls hl)
theorem G.aft {ws' : va_W} {st' : List Value} {cells' slots' g' : Nat} (ps : List Nat) (hn : va_nd ps = true) (hs : ps.map (fun i => ws[i]?) = ws'.map some) (h1 : st = st') (h2 : cells = cells') (h3 : slots = slots') (h4 : g = g') (kk : G p l e R s m args below meth c D nL A Q ws' lv cells' slots' g' pc st') : G p l e R s m args below meth c D nL A Q ws lv cells slots g pc st := by
  subst h1 h2 h3 h4
  exact G.re ps hn hs kk
theorem vp_in_c {i : Int32} {n : Nat} (h1 : ¬ i < 0) (h2 : ¬ nI n ≤ i) (hn : n < 2 ^ 31) : vp_in i n := by
  rcases pk_ix i hn with h | h | ⟨j, hj, rfl⟩
  · exact absurd h h1
  · exact absurd h h2
  · exact vp_in_nI hj hn
theorem arrV_c (cI : ClassId) (N : Nat) {f f2 : Nat → Value} (h : ∀ j, j < N → f j = f2 j) : arrV cI N f = arrV cI N f2 := by
  unfold arrV
  congr 1
  apply Array.ext
  · simp
  · intro i h1 h2
    simp at h1
    simp [h i h1]
theorem G.cell {a : Nat} {cA : ClassId} {x x' : vp_A} (q0 : Nat) (ws' : va_W) (he : ws[q0]? = some (a, .inl (cA, x))) (hx : vp_cell cA x = vp_cell cA x') (hw : ws.set q0 (a, .inl (cA, x')) = ws') (kk : G p l e R s m args below meth c D nL A Q ws' lv cells slots g pc st) : G p l e R s m args below meth c D nL A Q ws lv cells slots g pc st := by
  subst hw
  intro H locs hP hD hS hZ ls hl
  have h0 : H[a]? = some (vp_cell cA x) := hP q0 _ he
  exact kk H locs (hP.set hD he (show H[a]? = some (vp_cell cA x') by rw [← hx]; exact h0) (fun q _ => rfl)) (hD.set he) hS hZ ls hl
theorem G.fn {a n : Nat} {cA : ClassId} {f : Nat → Int32} (f' : Nat → Int32) (q0 : Nat) (ws' : va_W) (he : ws[q0]? = some (a, .inl (cA, n, .inl f))) (hx : ∀ j, j < n → f j = f' j) (hw : ws.set q0 (a, .inl (cA, n, .inl f')) = ws') (kk : G p l e R s m args below meth c D nL A Q ws' lv cells slots g pc st) : G p l e R s m args below meth c D nL A Q ws lv cells slots g pc st :=
  G.cell (x' := (n, .inl f')) q0 ws' he (arrV_c cA n (fun j hj => congrArg Value.int (hx j hj))) hw kk
theorem G.fnJ {a n : Nat} {cA : ClassId} {f : Nat → Int64} (f' : Nat → Int64) (q0 : Nat) (ws' : va_W) (he : ws[q0]? = some (a, .inl (cA, n, .inr (.inl f)))) (hx : ∀ j, j < n → f j = f' j) (hw : ws.set q0 (a, .inl (cA, n, .inr (.inl f'))) = ws') (kk : G p l e R s m args below meth c D nL A Q ws' lv cells slots g pc st) : G p l e R s m args below meth c D nL A Q ws lv cells slots g pc st :=
  G.cell (x' := (n, .inr (.inl f'))) q0 ws' he (arrV_c cA n (fun j hj => congrArg Value.long (hx j hj))) hw kk
/-- a truth as the machine has it -/
def bI (b : Bool) : Int32 := if b then 1 else 0
theorem bI_nar (b : Bool) : narrow .boolean (.int (bI b)) = .int (bI b) := by cases b <;> rfl
theorem bI_t : bI true = 1 := rfl
theorem bI_f : bI false = 0 := rfl
theorem bI_0 (b : Bool) : bI b = 0 ↔ b = false := by cases b <;> decide
theorem bI_1 (b : Bool) : bI b = 1 ↔ b = true := by cases b <;> decide
theorem g_iald_n (C : Cx p s m args c D k A cc own nL) {a n j : Nat} {f : Nat → Int32} (q0 : Nat) {i : Int32} (ha : ws[q0]? = some (a, aI k n f)) (hj : j < n) (hn : n < 2 ^ 31) (hi : i = nI j) (hdg : decode cc pc = .ok (.iaload, 1)) (kk : G p l e R s m args below meth c D nL A Q ws lv cells slots g (pc + 1) (.int (f j) :: st)) : G p l e R s m args below meth c D nL A Q ws lv cells slots g pc (.int i :: .ref a :: st) := by
  subst hi
  refine g_iald C q0 ha (vp_in_nI hj hn) hdg ?_
  rw [nI_clamp (by omega)]
  exact kk
theorem g_iast_n (C : Cx p s m args c D k A cc own nL) {a n j : Nat} {f : Nat → Int32} (q0 : Nat) (ws' : va_W) {i x : Int32} (ha : ws[q0]? = some (a, aI k n f)) (hj : j < n) (hn : n < 2 ^ 31) (hi : i = nI j) (hw : ws.set q0 (a, aI k n (upd f j x)) = ws') (hdg : decode cc pc = .ok (.iastore, 1)) (kk : G p l e R s m args below meth c D nL A Q ws' lv cells slots g (pc + 1) st) : G p l e R s m args below meth c D nL A Q ws lv cells slots g pc (.int x :: .int i :: .ref a :: st) := by
  subst hi
  have hcl : (nI j).toNatClampNeg = j := nI_clamp (by omega)
  exact g_iast C q0 ws' ha (vp_in_nI hj hn) (by rw [hcl]; exact hw) hdg kk
end GG
section GR
variable {p : Program} {l : Launch} {e : Env} {R : Room} {s : State} {m : MethodId} {args : Array Value} {below : List Frame} {meth : Method} {c : Code} {D : va_G} {k : Nat → ClassId} {cc : ByteArray} {own : String} {nL : Nat} {w0 ws : va_W} {post : Option Value → va_W → Prop} {mc ms gr : Nat} {lv : List (Nat × Value)} {cells slots g pc : Nat}
theorem g_iret (C : Cx p s m args c D k (va_A w0 s.heap.size) cc own nL) {v : Int32} (hr : meth.sig.returnType = some .int) (hlk : meth.locks = false) (hc : cells ≤ mc) (hs : slots ≤ ms) (hg : gr ≤ g) (hdg : decode cc pc = .ok (.ireturn, 1)) (hq : post (some (.int v)) ws) : G p l e R s m args below meth c D nL (va_A w0 s.heap.size) (QM below D args s w0 post mc ms gr) ws lv cells slots g pc [.int v] := by
  intro H locs hP hD hS hZ ls hl
  refine W.widen hc hs ?_
  exact W.iret C.1 C.2.1 hr (fun t ht hW => ⟨⟨_, ws, rfl, hq, by rw [ht]; exact hP, hD, by rw [ht]; exact Nat.le_trans (Nat.add_le_add_left hg _) hZ⟩, hS.F ht⟩) hS.2.2 hdg hlk
theorem g_zret (C : Cx p s m args c D k (va_A w0 s.heap.size) cc own nL) {v : Int32} (hr : meth.sig.returnType = some .boolean) (hn : narrow .boolean (.int v) = .int v) (hlk : meth.locks = false) (hc : cells ≤ mc) (hs : slots ≤ ms) (hg : gr ≤ g) (hdg : decode cc pc = .ok (.ireturn, 1)) (hq : post (some (.int v)) ws) : G p l e R s m args below meth c D nL (va_A w0 s.heap.size) (QM below D args s w0 post mc ms gr) ws lv cells slots g pc [.int v] := by
  intro H locs hP hD hS hZ ls hl
  refine W.widen hc hs ?_
  exact W.zret C.1 C.2.1 hr hn (fun t ht hW => ⟨⟨_, ws, rfl, hq, by rw [ht]; exact hP, hD, by rw [ht]; exact Nat.le_trans (Nat.add_le_add_left hg _) hZ⟩, hS.F ht⟩) hS.2.2 hdg hlk
theorem g_lret (C : Cx p s m args c D k (va_A w0 s.heap.size) cc own nL) {v : Int64} (hr : meth.sig.returnType = some .long) (hlk : meth.locks = false) (hc : cells ≤ mc) (hs : slots ≤ ms) (hg : gr ≤ g) (hdg : decode cc pc = .ok (.lreturn, 1)) (hq : post (some (.long v)) ws) : G p l e R s m args below meth c D nL (va_A w0 s.heap.size) (QM below D args s w0 post mc ms gr) ws lv cells slots g pc [.long v] := by
  intro H locs hP hD hS hZ ls hl
  refine W.widen hc hs ?_
  exact W.lret C.1 C.2.1 hr (fun t ht hW => ⟨⟨_, ws, rfl, hq, by rw [ht]; exact hP, hD, by rw [ht]; exact Nat.le_trans (Nat.add_le_add_left hg _) hZ⟩, hS.F ht⟩) hS.2.2 hdg hlk
theorem g_vret (C : Cx p s m args c D k (va_A w0 s.heap.size) cc own nL)  (hr : meth.sig.returnType = none) (hlk : meth.locks = false) (hc : cells ≤ mc) (hs : slots ≤ ms) (hg : gr ≤ g) (hdg : decode cc pc = .ok (.return_, 1)) (hq : post (none) ws) : G p l e R s m args below meth c D nL (va_A w0 s.heap.size) (QM below D args s w0 post mc ms gr) ws lv cells slots g pc [] := by
  intro H locs hP hD hS hZ ls hl
  refine W.widen hc hs ?_
  exact W.vret C.1 C.2.1 hr (fun t ht hW => ⟨⟨_, ws, rfl, hq, by rw [ht]; exact hP, hD, by rw [ht]; exact Nat.le_trans (Nat.add_le_add_left hg _) hZ⟩, hS.F ht⟩) hS.2.2 hdg hlk
theorem g_aret (C : Cx p s m args c D k (va_A w0 s.heap.size) cc own nL) {v : Nat} {rt : FieldType} (hr : meth.sig.returnType = some rt) (hrt : (∃ n, rt = .object n) ∨ ∃ t, rt = .array t) (hlk : meth.locks = false) (hc : cells ≤ mc) (hs : slots ≤ ms) (hg : gr ≤ g) (hdg : decode cc pc = .ok (.areturn, 1)) (hq : post (some (.ref v)) ws) : G p l e R s m args below meth c D nL (va_A w0 s.heap.size) (QM below D args s w0 post mc ms gr) ws lv cells slots g pc [.ref v] := by
  intro H locs hP hD hS hZ ls hl
  refine W.widen hc hs ?_
  exact W.aret C.1 C.2.1 hr hrt (Or.inr ⟨_, rfl⟩) (fun t ht hW => ⟨⟨_, ws, rfl, hq, by rw [ht]; exact hP, hD, by rw [ht]; exact Nat.le_trans (Nat.add_le_add_left hg _) hZ⟩, hS.F ht⟩) hS.2.2 hdg hlk
end GR
section GC
variable {p : Program} {l : Launch} {e : Env} {R : Room} {s : State} {m : MethodId} {args : Array Value} {below : List Frame} {meth : Method} {c : Code} {D : va_G} {k : Nat → ClassId} {A : Nat → Prop} {cc : ByteArray} {own : String} {nL : Nat} {Q : State → Prop} {ws : va_W} {lv : List (Nat × Value)} {cells slots g pc : Nat} {st : List Value}
theorem sub_of {ws w0 : va_W} {is : List Nat} (h : is.map (fun i => ws[i]?) = w0.map some) : is.filterMap (fun i => ws[i]?) = w0 := by
  have h1 : is.filterMap (fun i => ws[i]?) = (is.map (fun i => ws[i]?)).filterMap id := by rw [List.filterMap_map]; rfl
  rw [h1, h, List.filterMap_map]
  have h2 : (id ∘ some : Nat × va_E → Option (Nat × va_E)) = some := rfl
  rw [h2, List.filterMap_some]
theorem g_done (C : Cx p s m args c D k A cc own nL) {H : Heap} {locs : List Loc} {ls : Array Slot} {mc ms gr : Nat} {w0 wr : va_W} {post : Option Value → va_W → Prop} {g0 : JFrame} {pc0 : Nat} (isC isR : List Nat) (hC : isC.map (fun i => ws[i]?) = w0.map some) (hRr : isR.map (fun i => ws[i]?) = wr.map some) (hn : va_nd isR = true) (hnc : va_nd isC = true) (hdis : ∀ i ∈ isR, i ∉ isC) (hP : va_P D vwCl ws H) (hD : va_D A ws) (hS : va_S A s.heap H locs) (hZ : s.heap.size + g ≤ H.size) (hl : lv_has ls nL lv) (hFc : ∀ q, va_A w0 H.size q → A q)
    (hr : va_Run p l e R s m args below meth c H locs cells slots mc ms g0 st (fun st0 o t => (∃ (rv : Option Value) (w1 : va_W), o = .returned rv ∧ post rv w1 ∧ va_P D vwCl w1 t.heap ∧ va_D (va_A w0 H.size) w1 ∧ H.size + gr ≤ t.heap.size) ∧ va_F (va_A w0 H.size) st0 t) (va_A w0 H.size)) (hg0 : ∀ rv : Option Value, ({ g0 with pc := g0.pc + 3, stack := rv.toList ++ st } : JFrame) = F0 m (pc0 + 3) ls (rv.toList ++ st))
    (kk : ∀ (rv : Option Value) (w1 : va_W), post rv w1 → G p l e R s m args below meth c D nL A Q (wr ++ w1) lv (cells + mc) (slots + ms) (g + gr) (pc0 + 3) (rv.toList ++ st)) : W p l e R s m args below meth c H locs cells slots Q g0 := by
  intro T hT X
  obtain ⟨v, st0, t, T', L, e0, X', hL, e1, e2, ⟨⟨rv, w1, h1, h2, h3, h4, h5⟩, h6⟩, go⟩ := hr T hT X
  cases h1
  have hk1 : ∀ q : Nat, q < H.size → ¬ va_A w0 H.size q → t.heap[q]? = H[q]? := fun q hq hn => by rw [← e0]; exact h6.2 q (by rw [e0]; exact hq) hn
  obtain ⟨hP1, hD1⟩ := va_join (wr := wr) (w1 := w1) hP hD isC isR hC hRr hn hdis hk1 hFc h3 h4
  have hz : H.size ≤ t.heap.size := by omega
  obtain ⟨t2, a1, b1⟩ := kk v w1 h2 t.heap (locs ++ L) hP1 hD1 ⟨Nat.le_trans hS.1 hz, fun q hq hn9 => (hk1 q (Nat.lt_of_lt_of_le hq hS.1) (fun z => hn9 (hFc q z))).trans (hS.2.1 q hq hn9), fun x hx => (List.mem_append.mp hx).elim (hS.2.2 x) (fun h => hFc _ (hL x h))⟩ (by omega) ls hl T' e1 X'
  refine ⟨t2, go t2 ?_, b1⟩
  rw [hg0]
  exact a1
theorem g_callV (C : Cx p s m args c D k A cc own nL) {y : MethodName} {cy : ByteArray} {ny idx : Nat} {ret : Option FieldType} {fr lo b mc ms gr : Nat} {As : List Value} {w0 wr : va_W} {post : Option Value → va_W → Prop} {Cn : String} {T : u_T} {N ci q0 : Nat} {fs : List Value} {nA : Nat} (hAs : As.length = nA) (hM : CM l D k y cy ny ret fr lo (.ref b :: As) w0 post mc ms gr) (h1 : Cond.methodLink own idx y ∈ WG) (h2 : Cond.instanceMethod y ∈ WG) (h3 : Cond.selects Cn y y ∈ WG) (h4 : Cond.initialized Cn ∈ WG) (h5 : Cond.code y cy ny ret ∈ WG) (hd : y.cls = Cn ∧ y.cls ≠ "java/lang/invoke/MethodHandle" ∧ y.cls ≠ "java/lang/invoke/VarHandle" ∧ (parseMethodDescriptor y.desc).map (fun d => d.parameters.length) = some nA) (he : ws[q0]? = some (b, .inr (ci, fs))) (hc : vwCl[ci]? = some (Cn, T, N)) (hdg : decode cc pc = .ok (.invokevirtual idx, 3)) (hR : fr + 1 ≤ R.frames ∧ 8 + (ny + 11) + lo ≤ R.locals) (isC isR : List Nat) (hC : isC.map (fun i => ws[i]?) = w0.map some) (hRr : isR.map (fun i => ws[i]?) = wr.map some) (hn : va_nd isR = true) (hnc : va_nd isC = true) (hdis : ∀ i ∈ isR, i ∉ isC) (hcat : (st.map fun v => v.category).sum ≤ 8) (hf : cells + mc ≤ R.cells ∧ slots + ms ≤ R.slots) (kk : ∀ (rv : Option Value) (w1 : va_W), post rv w1 → G p l e R s m args below meth c D nL A Q (wr ++ w1) lv (cells + mc) (slots + ms) (g + gr) (pc + 3) (rv.toList ++ st)) : G p l e R s m args below meth c D nL A Q ws lv cells slots g pc (As.reverse ++ .ref b :: st) := by
  intro H locs hP hD hS hZ ls hl
  have hTs := C.2.2.2.2.1
  have hPc := hP.sub (ws' := w0) isC (sub_of hC)
  have hDc := hD.sub (ws' := w0) isC hnc hC
  have hFc := va_free (wc := w0) hD hS C.2.2.2.2.2.2.1 isC hC
  exact g_done C isC isR hC hRr hn hnc hdis hP hD hS hZ hl hFc (va_runV (As := As) (rest := st) ⟨C.1, C.2.1, C.2.2.1, C.2.2.2.1, hTs⟩ (hM H.size) (cwV nA hTs (wg_V h1 h2 h3 h4 h5) rfl rfl rfl hd hR) ⟨(fun a U g9 mk q => ⟨q.1, q.2.1, q.2.2.1, va_K.moved (u := U) (U := U.calling g9 mk a) (Vm.Alike.refl U.vm) q.2.2.2.1, q.2.2.2.2.1, NF.same (u := U) (U := U.calling g9 mk a) rfl q.2.2.2.2.2⟩), va_recv C.2.2.2.2.2.1 hP hc he, (fun U hU hW => ⟨rfl, by rw [hU], by rw [hU]; exact hPc, va_K.moved hW.alike C.2.2.2.2.2.1, hDc.weaken (fun _ _ _ _ => trivial), NF.warm hW C.2.2.2.2.2.2.2⟩)⟩ rfl hAs hl.1 rfl (lv_room hcat) hdg hf) (fun _ => rfl) kk
theorem g_callI (C : Cx p s m args c D k A cc own nL) {y : MethodName} {cy : ByteArray} {ny idx : Nat} {ret : Option FieldType} {fr lo b mc ms gr : Nat} {As : List Value} {w0 wr : va_W} {post : Option Value → va_W → Prop}  {nA : Nat} (hAs : As.length = nA) (hM : CM l D k y cy ny ret fr lo (.ref b :: As) w0 post mc ms gr) (h1 : Cond.methodLink own idx y ∈ WG) (h2 : Cond.instanceMethod y ∈ WG) (h4 : Cond.initialized y.cls ∈ WG) (h5 : Cond.code y cy ny ret ∈ WG) (hret : ret = none) (hyn : y.name = "<init>") (hd : y.cls ≠ "java/lang/invoke/MethodHandle" ∧ y.cls ≠ "java/lang/invoke/VarHandle" ∧ (parseMethodDescriptor y.desc).map (fun d => d.parameters.length) = some nA) (hdg : decode cc pc = .ok (.invokespecial idx, 3)) (hR : fr + 1 ≤ R.frames ∧ 8 + (ny + 11) + lo ≤ R.locals) (isC isR : List Nat) (hC : isC.map (fun i => ws[i]?) = w0.map some) (hRr : isR.map (fun i => ws[i]?) = wr.map some) (hn : va_nd isR = true) (hnc : va_nd isC = true) (hdis : ∀ i ∈ isR, i ∉ isC) (hcat : (st.map fun v => v.category).sum ≤ 8) (hf : cells + mc ≤ R.cells ∧ slots + ms ≤ R.slots) (kk : ∀ (rv : Option Value) (w1 : va_W), post rv w1 → G p l e R s m args below meth c D nL A Q (wr ++ w1) lv (cells + mc) (slots + ms) (g + gr) (pc + 3) (rv.toList ++ st)) : G p l e R s m args below meth c D nL A Q ws lv cells slots g pc (As.reverse ++ .ref b :: st) := by
  intro H locs hP hD hS hZ ls hl
  have hTs := C.2.2.2.2.1
  have hPc := hP.sub (ws' := w0) isC (sub_of hC)
  have hDc := hD.sub (ws' := w0) isC hnc hC
  have hFc := va_free (wc := w0) hD hS C.2.2.2.2.2.2.1 isC hC
  subst hret
  exact g_done C isC isR hC hRr hn hnc hdis hP hD hS hZ hl hFc (va_runI (As := As) (rest := st) ⟨C.1, C.2.1, C.2.2.1, C.2.2.2.1, hTs⟩ (hM H.size) (cwI nA hTs (wg_C h5) rfl rfl rfl (hTs _ h4) (hTs _ h1) (hTs _ h2) hyn hd hR) ⟨(fun a U g9 mk q => ⟨q.1, q.2.1, q.2.2.1, va_K.moved (u := U) (U := U.calling g9 mk a) (Vm.Alike.refl U.vm) q.2.2.2.1, q.2.2.2.2.1, NF.same (u := U) (U := U.calling g9 mk a) rfl q.2.2.2.2.2⟩), (fun U hU hW => ⟨rfl, by rw [hU], by rw [hU]; exact hPc, va_K.moved hW.alike C.2.2.2.2.2.1, hDc.weaken (fun _ _ _ _ => trivial), NF.warm hW C.2.2.2.2.2.2.2⟩)⟩ rfl hAs hl.1 rfl (lv_room hcat) hdg hf) (fun _ => rfl) kk
theorem g_callIN (C : Cx p s m args c D k A cc own nL) {y : MethodName} {cy : ByteArray} {ny idx : Nat} {ret : Option FieldType} {fr lo b mc ms gr : Nat} {As : List Value} {w0 wr : va_W} {post : Option Value → va_W → Prop} {host : String} {nA : Nat} (hAs : As.length = nA) (hM : CM l D k y cy ny ret fr lo (.ref b :: As) w0 post mc ms gr) (h1 : (own, idx, y, host) ∈ nestW) (h2 : Cond.instanceMethod y ∈ WG) (h4 : Cond.initialized y.cls ∈ WG) (h5 : Cond.code y cy ny ret ∈ WG) (hret : ret = none) (hyn : y.name = "<init>") (hd : y.cls ≠ "java/lang/invoke/MethodHandle" ∧ y.cls ≠ "java/lang/invoke/VarHandle" ∧ (parseMethodDescriptor y.desc).map (fun d => d.parameters.length) = some nA) (hdg : decode cc pc = .ok (.invokespecial idx, 3)) (hR : fr + 1 ≤ R.frames ∧ 8 + (ny + 11) + lo ≤ R.locals) (isC isR : List Nat) (hC : isC.map (fun i => ws[i]?) = w0.map some) (hRr : isR.map (fun i => ws[i]?) = wr.map some) (hn : va_nd isR = true) (hnc : va_nd isC = true) (hdis : ∀ i ∈ isR, i ∉ isC) (hcat : (st.map fun v => v.category).sum ≤ 8) (hf : cells + mc ≤ R.cells ∧ slots + ms ≤ R.slots) (kk : ∀ (rv : Option Value) (w1 : va_W), post rv w1 → G p l e R s m args below meth c D nL A Q (wr ++ w1) lv (cells + mc) (slots + ms) (g + gr) (pc + 3) (rv.toList ++ st)) : G p l e R s m args below meth c D nL A Q ws lv cells slots g pc (As.reverse ++ .ref b :: st) := by
  intro H locs hP hD hS hZ ls hl
  have hTs := C.2.2.2.2.1
  have hPc := hP.sub (ws' := w0) isC (sub_of hC)
  have hDc := hD.sub (ws' := w0) isC hnc hC
  have hFc := va_free (wc := w0) hD hS C.2.2.2.2.2.2.1 isC hC
  subst hret
  exact g_done C isC isR hC hRr hn hnc hdis hP hD hS hZ hl hFc (va_runIN (As := As) (rest := st) ⟨C.1, C.2.1, C.2.2.1, C.2.2.2.1, hTs⟩ (hM H.size) ⟨va_cnB nA hTs (wg_C h5) rfl rfl rfl (C.2.2.2.2.2.2.2.1 _ h1) (hTs _ h4) hd hR, hyn, hTs _ h2⟩ ⟨(fun a U g9 mk q => ⟨q.1, q.2.1, q.2.2.1, va_K.moved (u := U) (U := U.calling g9 mk a) (Vm.Alike.refl U.vm) q.2.2.2.1, q.2.2.2.2.1, NF.same (u := U) (U := U.calling g9 mk a) rfl q.2.2.2.2.2⟩), (fun U hU hW => ⟨rfl, by rw [hU], by rw [hU]; exact hPc, va_K.moved hW.alike C.2.2.2.2.2.1, hDc.weaken (fun _ _ _ _ => trivial), NF.warm hW C.2.2.2.2.2.2.2⟩)⟩ rfl hAs hl.1 rfl (lv_room hcat) hdg hf) (fun _ => rfl) kk
theorem g_callS (C : Cx p s m args c D k A cc own nL) {y : MethodName} {cy : ByteArray} {ny idx : Nat} {ret : Option FieldType} {fr lo b mc ms gr : Nat} {As : List Value} {w0 wr : va_W} {post : Option Value → va_W → Prop}  {nA : Nat} (hAs : As.length = nA) (hM : CM l D k y cy ny ret fr lo As w0 post mc ms gr) (h1 : Cond.methodLink own idx y ∈ WG) (h2 : Cond.static y ∈ WG) (h4 : Cond.initialized own ∈ WG) (h5 : Cond.code y cy ny ret ∈ WG) (hd : y.cls = own ∧ y.cls ≠ "java/lang/invoke/MethodHandle" ∧ y.cls ≠ "java/lang/invoke/VarHandle" ∧ (parseMethodDescriptor y.desc).map (fun d => d.parameters.length) = some nA) (hdg : decode cc pc = .ok (.invokestatic idx, 3)) (hR : fr + 1 ≤ R.frames ∧ 8 + (ny + 11) + lo ≤ R.locals) (isC isR : List Nat) (hC : isC.map (fun i => ws[i]?) = w0.map some) (hRr : isR.map (fun i => ws[i]?) = wr.map some) (hn : va_nd isR = true) (hnc : va_nd isC = true) (hdis : ∀ i ∈ isR, i ∉ isC) (hcat : (st.map fun v => v.category).sum ≤ 8) (hf : cells + mc ≤ R.cells ∧ slots + ms ≤ R.slots) (kk : ∀ (rv : Option Value) (w1 : va_W), post rv w1 → G p l e R s m args below meth c D nL A Q (wr ++ w1) lv (cells + mc) (slots + ms) (g + gr) (pc + 3) (rv.toList ++ st)) : G p l e R s m args below meth c D nL A Q ws lv cells slots g pc (As.reverse ++ st) := by
  intro H locs hP hD hS hZ ls hl
  have hTs := C.2.2.2.2.1
  have hPc := hP.sub (ws' := w0) isC (sub_of hC)
  have hDc := hD.sub (ws' := w0) isC hnc hC
  have hFc := va_free (wc := w0) hD hS C.2.2.2.2.2.2.1 isC hC
  exact g_done C isC isR hC hRr hn hnc hdis hP hD hS hZ hl hFc (va_runS (As := As) (rest := st) ⟨C.1, C.2.1, C.2.2.1, C.2.2.2.1, hTs⟩ (hM H.size) (cwS nA hTs (wg_S h1 h2 h4 h5) rfl rfl rfl hd hR) ⟨(fun a U g9 mk q => ⟨q.1, q.2.1, q.2.2.1, va_K.moved (u := U) (U := U.calling g9 mk a) (Vm.Alike.refl U.vm) q.2.2.2.1, q.2.2.2.2.1, NF.same (u := U) (U := U.calling g9 mk a) rfl q.2.2.2.2.2⟩), (fun U hU hW => ⟨rfl, by rw [hU], by rw [hU]; exact hPc, va_K.moved hW.alike C.2.2.2.2.2.1, hDc.weaken (fun _ _ _ _ => trivial), NF.warm hW C.2.2.2.2.2.2.2⟩)⟩ rfl hAs hl.1 rfl (lv_room hcat) hdg hf) (fun _ => rfl) kk
end GC
end
section
/-! ===== BEGIN new T[n][m]: the outer array a place, the inner ones among the pooled ===== -/
/-- f, but v at every address of l -/
def vr_up {α : Type} (f : Nat → α) (l : List Nat) (v : α) : Nat → α := fun a => if a ∈ l then v else f a
theorem vr_up_in {α : Type} {f : Nat → α} {l : List Nat} {v : α} {a : Nat} (h : a ∈ l) : vr_up f l v a = v := if_pos h
theorem vr_up_ne {α : Type} {f : Nat → α} {l : List Nat} {v : α} {a : Nat} (h : a ∉ l) : vr_up f l v a = f a := if_neg h
theorem vr_rows {L l : List Nat} {f : Nat → va_E} {e : va_E} (h : ∀ a, a ∈ l → a ∉ L) : va_pl L f ++ l.map (fun a => (a, e)) = va_pl (L ++ l) (vr_up f l e) := by
  unfold va_pl
  rw [List.map_append]
  congr 1
  · apply List.map_congr_left
    intro a ha
    rw [vr_up_ne (fun q => h a q ha)]
  · apply List.map_congr_left
    intro a ha
    rw [vr_up_in ha]
theorem vr_lay {X rows : va_W} {x : Nat × va_E} {pl : va_W} {D : va_G} {cl : List vw_C} {H : Heap} (hP : va_P D cl (((X ++ pl) ++ [x]) ++ rows) H) : va_P D cl ((X ++ [x]) ++ (pl ++ rows)) H := by
  rw [List.append_assoc (X ++ pl)] at hP
  have h := va_P.swap hP
  rw [← List.append_assoc X] at h
  have h2 := va_P.swap h
  rw [List.append_assoc (X ++ [x])] at h2
  exact h2
theorem vr_layD {X rows : va_W} {x : Nat × va_E} {pl : va_W} {A : Nat → Prop} (hD : va_D A (((X ++ pl) ++ [x]) ++ rows)) : va_D A ((X ++ [x]) ++ (pl ++ rows)) := by
  rw [List.append_assoc (X ++ pl)] at hD
  have h := va_D.swap hD
  rw [← List.append_assoc X] at h
  have h2 := va_D.swap h
  rw [List.append_assoc (X ++ [x])] at h2
  exact h2
theorem vr_outer (c : ClassId) (N h0 : Nat) : ∀ i : Nat, Jvm.Free.Multi.outerC c N h0 i = arrV c N (fun j => va_rf (if j < i then some (h0 + 1 + j) else none))
  | 0 => by
    show ({ cls := c, slots := Array.replicate N .null, vm := .none } : Cell) = _
    rw [arrV_new]
    refine congrArg (arrV c N) (funext fun j => ?_)
    simp [va_rf]
  | i + 1 => by
    show (Jvm.Free.Multi.outerC c N h0 i).setSlot i (.ref (h0 + 1 + i)) = _
    rw [vr_outer c N h0 i, arrV_store]
    refine congrArg (arrV c N) (funext fun j => ?_)
    by_cases e : j = i
    · subst e
      simp [updV, va_rf]
    · by_cases h : j < i
      · simp [updV, e, h, Nat.lt_succ_of_lt h]
      · simp [updV, e, h, show ¬ j < i + 1 by omega]
section VGM
variable {p : Program} {l : Launch} {e : Env} {R : Room} {s : State} {m : MethodId} {args : Array Value} {below : List Frame} {meth : Method} {c : Code} {H : Heap} {locs : List Loc} {cells slots : Nat} {Q : State → Prop}
variable {cc : ByteArray} {pc : Nat} {ls : Array Slot} {rest : List Value} {D : va_G} {cl : List vw_C} {A : Nat → Prop} {a : Nat} {tys : List (ClassId × FieldType)} {ws : va_W} {H0 : Heap}
theorem va_mna {X : va_W} {L : List Nat} {f : Nat → va_E} {cc : ByteArray} (hexec : p.tables.exec = Jvm.exec) (hb : c.code = cc) {own : String} {index : Nat} {ty : FieldType} {cy : ClassId} (hown : s.vm.findClass own = some m.cls) (hclink : (Cond.classLink own index ("[" ++ (FieldType.array ty).toString)).before args s = true) (hover : va_AOA ty s) (harr : (Cond.arrayClass ty).before args s = true) (hcy : s.vm.findClass (FieldType.array ty).toString = some cy)
    (hK : va_K D cl tys s) (hP : va_P D cl (X ++ va_pl L f) H) (hD : va_D A (X ++ va_pl L f)) (hS : va_S A H0 H locs) (hA : ∀ q, H0.size ≤ q → A q) {n k : Int32} {N' K' : Nat} {z : vp_A} (hn : ¬ n < 0) (hk : ¬ k < 0) (hN : n.toNatClampNeg = N') (hM : k.toNatClampNeg = K')
    (hb1 : N' * 4 ≤ 536870912) (hb2 : K' * componentBytes ty ≤ 536870912) (hb3 : K' ≤ 536870912) (hdf : fits ty (defaultValue ty) = true) (hdd : (defaultValue ty).isDefault = true) (hcells : cells + (1 + N') ≤ R.cells) (hslots : slots + (N' + N' * K') ≤ R.slots) (hz : ∀ c : ClassId, Jvm.Free.Multi.innerC c K' (defaultValue ty) = vp_cell c z) (hdg : decode cc pc = .ok (.multianewarray index 2, 4))
    (kk : ∀ (q : Nat) (r : Nat → Nat) (cA : ClassId) (H1 : Heap), (∀ i j : Nat, i < N' → j < N' → r i = r j → i = j) → (∀ i : Nat, i < N' → r i ∉ L) → va_K D cl (tys ++ [(cA, .array ty)]) s →
      va_P D cl ((X ++ [(q, .inl (cA, N', .inr (.inr (.inr (.inr (fun i => if i < N' then some (r i) else none))))))]) ++ va_pl (L ++ (List.range N').map r) (vr_up f ((List.range N').map r) (.inl (cy, z)))) H1 → va_D A ((X ++ [(q, .inl (cA, N', .inr (.inr (.inr (.inr (fun i => if i < N' then some (r i) else none))))))]) ++ va_pl (L ++ (List.range N').map r) (vr_up f ((List.range N').map r) (.inl (cy, z)))) → va_S A H0 H1 locs →
      W p l e R s m args below meth c H1 locs (cells + 1 + N') (slots + N' + N' * K') Q (F0 m (pc + 4) ls (.ref q :: rest))) : W p l e R s m args below meth c H locs cells slots Q (F0 m pc ls (.int k :: .int n :: rest)) := by
  subst hN
  subst hM
  intro T hT Xs
  obtain ⟨vm₁, cA, comp, -, fA, fC, hO, -, X', step⟩ := Xs.multianewarray2F hexec hown hclink (va_AOA.use hover) harr (g := F0 m pc ls (.int k :: .int n :: rest)) rfl (by rw [hb]; exact hdg) rfl hn hk hb1 hb2 hb3 hdf hdd hcells hslots
  have ec : some cy = some comp := hcy.symm.trans fC
  cases ec
  generalize hF : Jvm.Free.Multi.fill (T.setVm vm₁) cA cy n.toNatClampNeg k.toNatClampNeg (defaultValue ty) n.toNatClampNeg = F at X' step
  have hTh : (T.setVm vm₁).heap = H := hT
  obtain ⟨f1, f2, -, -⟩ := Jvm.Free.Multi.fill_facts (T.setVm vm₁) cA cy n.toNatClampNeg k.toNatClampNeg (defaultValue ty) n.toNatClampNeg
  rw [hF, hTh] at f1 f2
  have hold : ∀ x : Nat, x < H.size → F.heap[x]? = H[x]? := fun x hx => by
    have := Jvm.Free.Multi.fill_old (T.setVm vm₁) cA cy n.toNatClampNeg k.toNatClampNeg (defaultValue ty) (a := x) (by rw [hTh]; exact hx) n.toNatClampNeg
    rw [hF, hTh] at this
    exact this
  have hrow : ∀ j : Nat, j < n.toNatClampNeg → F.heap[H.size + 1 + j]? = some (vp_cell cy z) := fun j hj => by
    have := Jvm.Free.Multi.fill_inner (T.setVm vm₁) cA cy n.toNatClampNeg k.toNatClampNeg (defaultValue ty) n.toNatClampNeg j hj
    rw [hF, hTh, hz] at this
    exact this
  have hout : Jvm.Free.Multi.outerC cA n.toNatClampNeg H.size n.toNatClampNeg = vp_cell cA (n.toNatClampNeg, .inr (.inr (.inr (.inr (fun i => if i < n.toNatClampNeg then some (H.size + 1 + i) else none))))) := by
    rw [vp_cell_q]
    exact vr_outer cA n.toNatClampNeg H.size n.toNatClampNeg
  rw [hout] at f2
  have hlt : ∀ a, a ∈ L → a < H.size := fun a ha => by
    obtain ⟨k9, hk9⟩ := va_pl_get (X := X) (f := f) ha
    exact (hP k9 _ hk9).lt
  have hnl : ∀ i : Nat, i < n.toNatClampNeg → H.size + 1 + i ∉ L := fun i _ h => by
    have := hlt _ h
    omega
  have hnm : ∀ a, a ∈ (List.range n.toNatClampNeg).map (fun i => H.size + 1 + i) → a ∉ L := fun a ha h => by
    obtain ⟨i, -, rfl⟩ := List.mem_map.mp ha
    have := hlt _ h
    omega
  have hP0 : va_P D cl (X ++ va_pl L f) F.heap := hP.kept (fun k9 x hx => hold x.1 ((hP k9 x hx).lt))
  have hP1 : va_P D cl ((X ++ va_pl L f) ++ [(H.size, .inl (cA, n.toNatClampNeg, .inr (.inr (.inr (.inr (fun i => if i < n.toNatClampNeg then some (H.size + 1 + i) else none))))))]) F.heap := hP0.app (fun k9 x hx => by
    have h0 : k9 < 1 := (List.getElem?_eq_some_iff.mp hx).1
    rw [show k9 = 0 by omega] at hx
    cases hx
    exact f2)
  have hP2 : va_P D cl (((X ++ va_pl L f) ++ [(H.size, .inl (cA, n.toNatClampNeg, .inr (.inr (.inr (.inr (fun i => if i < n.toNatClampNeg then some (H.size + 1 + i) else none))))))]) ++ ((List.range n.toNatClampNeg).map (fun i => H.size + 1 + i)).map (fun a => (a, .inl (cy, z)))) F.heap := hP1.app (fun k9 x hx => by
    obtain ⟨a, ha, rfl⟩ := List.mem_map.mp (List.mem_of_getElem? hx)
    obtain ⟨i, hi, rfl⟩ := List.mem_map.mp ha
    exact hrow i (List.mem_range.mp hi))
  have hD2 : va_D A (((X ++ va_pl L f) ++ [(H.size, .inl (cA, n.toNatClampNeg, .inr (.inr (.inr (.inr (fun i => if i < n.toNatClampNeg then some (H.size + 1 + i) else none))))))]) ++ ((List.range n.toNatClampNeg).map (fun i => H.size + 1 + i)).map (fun a => (a, .inl (cy, z)))) := by
    have hD1 := hD.push (e := .inl (cA, n.toNatClampNeg, .inr (.inr (.inr (.inr (fun i => if i < n.toNatClampNeg then some (H.size + 1 + i) else none)))))) hP rfl (hA _ hS.1)
    generalize hW1 : (X ++ va_pl L f) ++ [(H.size, .inl (cA, n.toNatClampNeg, .inr (.inr (.inr (.inr (fun i => if i < n.toNatClampNeg then some (H.size + 1 + i) else none))))))] = W1 at hD1 hP1 ⊢
    have hle : ∀ (k9 : Nat) (x : Nat × va_E), W1[k9]? = some x → x.1 ≤ H.size := fun k9 x hx => by
      rw [← hW1] at hx
      by_cases hl : k9 < (X ++ va_pl L f).length
      · rw [List.getElem?_append_left hl] at hx
        exact Nat.le_of_lt ((hP k9 x hx).lt)
      · rw [List.getElem?_append_right (by omega)] at hx
        have h0 : k9 - (X ++ va_pl L f).length < 1 := (List.getElem?_eq_some_iff.mp hx).1
        rw [show k9 - (X ++ va_pl L f).length = 0 by omega] at hx
        cases hx
        exact Nat.le_refl _
    have hr : ∀ (k9 : Nat) (x : Nat × va_E), (((List.range n.toNatClampNeg).map (fun i => H.size + 1 + i)).map (fun a => ((a, .inl (cy, z)) : Nat × va_E)))[k9]? = some x → x.1 = H.size + 1 + k9 := fun k9 x hx => by
      rw [List.getElem?_map, List.getElem?_map] at hx
      by_cases h9 : k9 < n.toNatClampNeg
      · rw [List.getElem?_range h9] at hx
        cases hx
        rfl
      · have hn0 : (List.range n.toNatClampNeg)[k9]? = none := List.getElem?_eq_none (by rw [List.length_range]; omega)
        rw [hn0] at hx
        cases hx
    refine ⟨fun i j x y hi hj hxy => ?_, fun k9 x hx => ?_⟩
    · by_cases h1 : i < W1.length <;> by_cases h2 : j < W1.length
      · rw [List.getElem?_append_left h1] at hi
        rw [List.getElem?_append_left h2] at hj
        exact hD1.1 i j x y hi hj hxy
      · rw [List.getElem?_append_left h1] at hi
        rw [List.getElem?_append_right (by omega)] at hj
        have := hle _ _ hi
        have := hr _ _ hj
        omega
      · rw [List.getElem?_append_right (by omega)] at hi
        rw [List.getElem?_append_left h2] at hj
        have := hle _ _ hj
        have := hr _ _ hi
        omega
      · rw [List.getElem?_append_right (by omega)] at hi hj
        have := hr _ _ hi
        have := hr _ _ hj
        omega
    · by_cases h1 : k9 < W1.length
      · rw [List.getElem?_append_left h1] at hx
        exact hD1.2 k9 x hx
      · rw [List.getElem?_append_right (by omega)] at hx
        have := hr _ _ hx
        exact hA _ (by have := hS.1; omega)
  have hAr : ArrOfT s cA (.array ty) := fun N9 z9 => by
    obtain ⟨-, k9, hk9, cm9, hkk9⟩ := (hO 0 0 0).1
    exact ⟨(fun q hq => by cases hq), k9, hk9, cm9, hkk9⟩
  have hK2 : va_K D cl (tys ++ [(cA, .array ty)]) s := ⟨hK.1, fun k9 x hx => by
    by_cases hl : k9 < tys.length
    · rw [List.getElem?_append_left hl] at hx
      exact hK.2 k9 x hx
    · rw [List.getElem?_append_right (by omega)] at hx
      have h0 : k9 - tys.length < 1 := (List.getElem?_eq_some_iff.mp hx).1
      rw [show k9 - tys.length = 0 by omega] at hx
      cases hx
      exact ⟨hAr, fA⟩⟩
  obtain ⟨t, a1, b1⟩ := kk H.size (fun i => H.size + 1 + i) cA F.heap (fun i j _ _ h => by have h9 : H.size + 1 + i = H.size + 1 + j := h; omega) hnl hK2 (by rw [← vr_rows hnm]; exact vr_lay hP2) (by rw [← vr_rows hnm]; exact vr_layD hD2) ⟨by rw [f1]; have := hS.1; omega, fun x h1 h2 => (hold x (Nat.lt_of_lt_of_le h1 hS.1)).trans (hS.2.1 x h1 h2), hS.2.2⟩ F rfl X'
  refine ⟨t, step t ?_, b1⟩
  have e : T.heap.size = H.size := by rw [hT]
  rw [e]
  exact a1
end VGM
/-! ===== END ===== -/
section GZ
variable {p : Program} {l : Launch} {e : Env} {R : Room} {s : State} {m : MethodId} {args : Array Value} {below : List Frame} {meth : Method} {c : Code} {D : va_G} {k : Nat → ClassId} {A : Nat → Prop} {cc : ByteArray} {own : String} {nL : Nat} {Q : State → Prop} {ws : va_W} {lv : List (Nat × Value)} {cells slots g pc : Nat} {st : List Value}
theorem fc_I (C : Cx p s m args c D k A cc own nL) : s.vm.findClass "[I" = some (k 0) := by
  have h0 := (C.2.2.2.2.2.1.2 0 (k 0, .int) rfl).2
  exact h0
theorem fc_II (C : Cx p s m args c D k A cc own nL) : s.vm.findClass "[[I" = some (k 3) := by
  have h0 := (C.2.2.2.2.2.1.2 3 (k 3, .array .int) rfl).2
  exact h0
theorem g_aald (C : Cx p s m args c D k A cc own nL) {a n j b : Nat} {f : Nat → Option Nat} (q0 : Nat) {i : Int32} (ha : ws[q0]? = some (a, aR k 3 n f)) (hj : j < n) (hn : n < 2 ^ 31) (hi : i = nI j) (hf : f j = some b) (hdg : decode cc pc = .ok (.aaload, 1)) (kk : G p l e R s m args below meth c D nL A Q ws lv cells slots g (pc + 1) (.ref b :: st)) : G p l e R s m args below meth c D nL A Q ws lv cells slots g pc (.int i :: .ref a :: st) := by
  subst hi
  intro H locs hP hD hS hZ ls hl
  have hin := vp_in_nI hj hn
  have hcl : (nI j).toNatClampNeg = j := nI_clamp (by omega)
  refine W.aald (v := .ref b) (ty := .array .int) C.1 C.2.1 (hP q0 _ ha) ((C.2.2.2.2.2.1.2 3 (k 3, .array .int) rfl).1 n (fun j => va_rf (f j))) rfl (fun q => by cases q) (by show ¬ (nI j < 0 ∨ (arrV _ _ _).slots.size ≤ _); rw [arrV_size]; exact hin) (by show (arrV _ _ _).slots[_]? = _; rw [hcl, arrV_read _ _ hj, hf]; rfl) rfl rfl hdg (kk H locs hP hD hS hZ ls hl)
theorem g_zald_n (C : Cx p s m args c D k A cc own nL) {a n j : Nat} {f : Nat → Int32} (q0 : Nat) {i : Int32} (ha : ws[q0]? = some (a, aZ k n f)) (hj : j < n) (hn : n < 2 ^ 31) (hi : i = nI j) (hdg : decode cc pc = .ok (.baload, 1)) (kk : G p l e R s m args below meth c D nL A Q ws lv cells slots g (pc + 1) (.int (f j) :: st)) : G p l e R s m args below meth c D nL A Q ws lv cells slots g pc (.int i :: .ref a :: st) := by
  subst hi
  intro H locs hP hD hS hZ ls hl
  have h1 := kk H locs hP hD hS hZ ls hl
  refine va_zald C.1 C.2.1 C.2.2.2.2.2.1 hP q0 2 ha rfl (vp_in_nI hj hn) hdg ?_
  rw [nI_clamp (by omega)]
  exact h1
theorem g_zast_n (C : Cx p s m args c D k A cc own nL) {a n j : Nat} {f : Nat → Int32} (q0 : Nat) (ws' : va_W) {i x : Int32} (ha : ws[q0]? = some (a, aZ k n f)) (hj : j < n) (hn : n < 2 ^ 31) (hi : i = nI j) (hx : vp_nar .boolean x = x) (hw : ws.set q0 (a, aZ k n (upd f j x)) = ws') (hdg : decode cc pc = .ok (.bastore, 1)) (kk : G p l e R s m args below meth c D nL A Q ws' lv cells slots g (pc + 1) st) : G p l e R s m args below meth c D nL A Q ws lv cells slots g pc (.int x :: .int i :: .ref a :: st) := by
  subst hi
  subst hw
  have hcl : (nI j).toNatClampNeg = j := nI_clamp (by omega)
  intro H locs hP hD hS hZ ls hl
  refine va_zast C.1 C.2.1 C.2.2.2.2.2.1 hP hD (S_rf hS) q0 2 ha rfl (vp_in_nI hj hn) hdg (fun H1 locs1 hP1 hD1 hS1 => ?_)
  rw [hcl, hx] at hP1 hD1
  exact kk H1 locs1 hP1 hD1 (S_tr hS hS1) (Nat.le_trans hZ hS1.1) ls hl
theorem bI_vp (b : Bool) : vp_nar .boolean (bI b) = bI b := by cases b <;> rfl
theorem g_castI (C : Cx p s m args c D k A cc own nL) {a idx : Nat} {x : vp_A} (q0 : Nat) (ha : ws[q0]? = some (a, .inl (k 0, x))) (hlink : Cond.classLink own idx "[I" ∈ WG) (hdg : decode cc pc = .ok (.checkcast idx, 3)) (kk : G p l e R s m args below meth c D nL A Q ws lv cells slots g (pc + 3) (.ref a :: st)) : G p l e R s m args below meth c D nL A Q ws lv cells slots g pc (.ref a :: st) := fun H locs hP hD hS hZ ls hl => va_castA C.1 C.2.1 C.2.2.2.1 (C.2.2.2.2.1 _ hlink) hP q0 ha (fc_I C) hdg (kk H locs hP hD hS hZ ls hl)
theorem g_cloneI (C : Cx p s m args c D k A cc own nL) {a idx n : Nat} {f : Nat → Int32} (q0 : Nat) (ha : ws[q0]? = some (a, aI k n f)) (h1 : Cond.methodLink own idx ⟨"[I", "clone", "()Ljava/lang/Object;"⟩ ∈ WG) (h2 : Cond.sameMethod "[I" "java/lang/Object" "clone" "()Ljava/lang/Object;" ∈ WG) (h3 : Cond.native ⟨"java/lang/Object", "clone", "()Ljava/lang/Object;"⟩ ∈ WG) (h4 : Cond.instanceMethod ⟨"java/lang/Object", "clone", "()Ljava/lang/Object;"⟩ ∈ WG) (h5 : Cond.selects "[I" ⟨"[I", "clone", "()Ljava/lang/Object;"⟩ ⟨"java/lang/Object", "clone", "()Ljava/lang/Object;"⟩ ∈ WG) (hfr : 1 ≤ R.frames) (hlo : (st.map fun v => v.category).sum + 14 ≤ R.locals) (hcells : cells + 1 ≤ R.cells) (hslots : slots + n ≤ R.slots) (hdg : decode cc pc = .ok (.invokevirtual idx, 3))
    (kk : ∀ q : Nat, G p l e R s m args below meth c D nL A Q (ws ++ [(q, aI k n f)]) lv (cells + 1) (slots + n) g (pc + 3) (.ref q :: st)) : G p l e R s m args below meth c D nL A Q ws lv cells slots g pc (.ref a :: st) := by
  intro H locs hP hD hS hZ ls hl
  have hTs := C.2.2.2.2.1
  refine va_clone C.1 C.2.1 (by rw [C.2.2.1]; exact hl.1.symm) C.2.2.2.1 (hTs _ h1) (hTs _ h2) (hTs _ h3) (hTs _ h4) (hTs _ h5) C.2.2.2.2.2.2.2.2.2.2 C.2.2.2.2.2.1 hP hD (S_rf hS) (fun q h => C.2.2.2.2.2.2.1 q (Nat.le_trans hS.1 h)) q0 0 ha rfl (fc_I C) (fun i v hv => ?_) hfr hlo hcells hslots hdg (fun q H1 hK1 hP1 hD1 hS1 => kk q H1 locs hP1 hD1 (S_tr hS hS1) (Nat.le_trans hZ hS1.1) ls hl)
  have hlt : i < n := by
    have h9 := (Array.getElem?_eq_some_iff.mp hv).1
    rw [show (vp_cell (k 0) (n, Sum.inl f)).slots.size = n from arrV_size _ _ _] at h9
    exact h9
  have h8 : (vp_cell (k 0) (n, Sum.inl f)).slots[i]? = some (.int (f i)) := arrV_read _ _ hlt
  rw [h8] at hv
  cases hv
  rfl
theorem g_mnaI (C : Cx p s m args c D k A cc own nL) {idx : Nat} (hlink : Cond.classLink own idx "[[I" ∈ WG) (harr : Cond.arrayClass .int ∈ WG) (hcells : cells + 7 ≤ R.cells) (hslots : slots + 42 ≤ R.slots) (hdg : decode cc pc = .ok (.multianewarray idx 2, 4))
    (kk : ∀ (q : Nat) (r : Nat → Nat), G p l e R s m args below meth c D nL A Q (ws ++ [(q, aR k 3 6 (fun i => if i < 6 then some (r i) else none)), (r 0, aI k 6 (fun _ => 0)), (r 1, aI k 6 (fun _ => 0)), (r 2, aI k 6 (fun _ => 0)), (r 3, aI k 6 (fun _ => 0)), (r 4, aI k 6 (fun _ => 0)), (r 5, aI k 6 (fun _ => 0))]) lv (cells + 7) (slots + 42) g (pc + 4) (.ref q :: st)) : G p l e R s m args below meth c D nL A Q ws lv cells slots g pc (.int 6 :: .int 6 :: st) := by
  intro H locs hP hD hS hZ ls hl
  have hTs := C.2.2.2.2.1
  refine va_mna (X := ws) (L := []) (f := fun _ => aI k 6 (fun _ => 0)) (cy := k 0) (ty := .int) (N' := 6) (K' := 6) (z := (6, .inl (fun _ => 0))) C.1 C.2.1 C.2.2.2.1 (hTs _ hlink) C.2.2.2.2.2.2.2.2.1 (hTs _ harr) (fc_I C) C.2.2.2.2.2.1 (by simpa [va_pl] using hP) (by simpa [va_pl] using hD) (S_rf hS) (fun q h => C.2.2.2.2.2.2.1 q (Nat.le_trans hS.1 h)) (by decide) (by decide) (by decide) (by decide) (by decide) (by decide) (by decide) rfl rfl (by omega) (by omega) (fun c9 => arrV_new c9 6 (.int 0)) hdg (fun q r cA H1 hr1 hr2 hK1 hP1 hD1 hS1 => ?_)
  have hcA : cA = k 3 := by
    have h1 := (hK1.2 6 (cA, .array .int) rfl).2
    exact Option.some.inj (h1.symm.trans (fc_II C))
  subst hcA
  have hrw : (ws ++ [(q, aR k 3 6 (fun i => if i < 6 then some (r i) else none))]) ++ va_pl ([] ++ (List.range 6).map r) (vr_up (fun _ => aI k 6 (fun _ => 0)) ((List.range 6).map r) (.inl (k 0, 6, .inl (fun _ => 0)))) = ws ++ [(q, aR k 3 6 (fun i => if i < 6 then some (r i) else none)), (r 0, aI k 6 (fun _ => 0)), (r 1, aI k 6 (fun _ => 0)), (r 2, aI k 6 (fun _ => 0)), (r 3, aI k 6 (fun _ => 0)), (r 4, aI k 6 (fun _ => 0)), (r 5, aI k 6 (fun _ => 0))] := by
    rw [List.append_assoc]
    simp [va_pl, List.range, List.range.loop, vr_up]
  rw [hrw] at hP1 hD1
  exact kk q r H1 locs hP1 hD1 (S_tr hS hS1) (Nat.le_trans hZ hS1.1) ls hl
end GZ
end
section
section VXS0
variable {p : Program} {l : Launch} {e : Env} {R : Room} {s : State} {m : MethodId} {args : Array Value} {below : List Frame} {meth : Method} {c : Code} {T : State} {H : Heap} {locs : List Loc} {cells slots : Nat}
abbrev vx_CSW (R : Room) (s : State) (args : Array Value) (own : String) (index : Nat) (y : MethodName) (bytes : ByteArray) (maxL : Nat) (ret : Option FieldType) (hh : List (Nat × Nat × Nat × Nat)) (ws : List Cond) (rm : Room) (mc ms n : Nat) : Prop :=
  (rm.cells = mc ∧ rm.slots = ms ∧ rm.frames + 1 ≤ R.frames ∧ 8 + (maxL + 11) + rm.locals ≤ R.locals ∧ (∀ w ∈ ws, ∀ (a' : Array Value) (U : State), s.WarmedH U.vm → w.before a' U = true) ∧ Cond.codeWith y bytes maxL ret hh ∈ ws) ∧
  (Cond.codeWith y bytes maxL ret hh).before args s = true ∧ (Cond.initialized y.cls).before args s = true ∧ (y.cls ≠ "java/lang/invoke/MethodHandle" ∧ y.cls ≠ "java/lang/invoke/VarHandle") ∧
  (∀ sig, parseMethodDescriptor y.desc = some sig → n = sig.parameters.length) ∧ (Cond.methodLink own index y).before args s = true ∧ (Cond.static y).before args s = true
theorem vx_cwSW {own : String} {index maxL mc ms : Nat} {y : MethodName} {bytes : ByteArray} {ret : Option FieldType} {hh : List (Nat × Nat × Nat × Nat)} {Ts ws ws' : List Cond} {rm : Room} (n : Nat) (ht : ∀ w ∈ Ts, w.before args s = true) (hT : GoodIn Ts (va_wsS own index y ws)) (hw : ws = Cond.codeWith y bytes maxL ret hh :: ws') (hrc : rm.cells = mc) (hrs : rm.slots = ms)
    (hd : y.cls ≠ "java/lang/invoke/MethodHandle" ∧ y.cls ≠ "java/lang/invoke/VarHandle" ∧ (parseMethodDescriptor y.desc).map (fun d => d.parameters.length) = some n) (hR : rm.frames + 1 ≤ R.frames ∧ 8 + (maxL + 11) + rm.locals ≤ R.locals) :
    vx_CSW R s args own index y bytes maxL ret hh ws rm mc ms n := by
  have ok : ∀ w ∈ va_wsS own index y ws, w.before args s = true := fun w h => ht w (hT w h).1
  have hG : GoodIn Ts ws := fun w h => hT w (by unfold va_wsS; exact List.mem_append_right _ h)
  have hc : Cond.codeWith y bytes maxL ret hh ∈ ws := by rw [hw]; exact List.mem_cons_self
  refine ⟨⟨hrc, hrs, hR.1, hR.2, pay_in ht hG, hc⟩, ht _ (hG _ hc).1, ok _ (by simp [va_wsS]), ⟨hd.1, hd.2.1⟩, fun sig h => ?_, ok _ (by simp [va_wsS]), ok _ (by simp [va_wsS])⟩
  have h2 := hd.2.2
  rw [h] at h2
  exact (Option.some.inj h2).symm
theorem vx_callSW (X : Stand p l e R s m args below meth c T locs cells slots) (hexec : p.tables.exec = Jvm.exec) {own : String} {index : Nat} {y : MethodName} {bytes : ByteArray} {maxL : Nat} {ret : Option FieldType} {hh : List (Nat × Nat × Nat × Nat)}
    (hown : s.vm.findClass own = some m.cls) (hlink : (Cond.methodLink own index y).before args s = true) (hstat : (Cond.static y).before args s = true) (hinit : (Cond.initialized y.cls).before args s = true)
    (hcode : (Cond.codeWith y bytes maxL ret hh).before args s = true) (hy : y.cls ≠ "java/lang/invoke/MethodHandle" ∧ y.cls ≠ "java/lang/invoke/VarHandle")
    {W9 : Nat} {Pre : Pt → Array Value → Prop} {Post : Pt → Array Value → Option Value → Pt → Prop} (hK : Back l R p e below s args y 3 W9 Pre Post)
    {g : JFrame} (hg : g.method = m) (hsize : g.locals.size = c.maxLocals) {argsL rest : List Value} (hlen : ∀ sig, parseMethodDescriptor y.desc = some sig → argsL.length = sig.parameters.length)
    (hstack : g.stack = argsL.reverse ++ rest) (hW : 2 * g.monitorRoom + (rest.map fun v => v.category).sum ≤ W9) (hdg : decode c.code g.pc = .ok (.invokestatic index, 3))
    (hpre : ∀ vm₁, s.WarmedH vm₁ → Pre ⟨T.setVm vm₁, locs, cells, slots⟩ argsL.toArray) :
    ∃ (v : Option Value) (vm₁ : Vm) (B : Pt), s.WarmedH vm₁ ∧ Stand p l e R s m args below meth c B.U B.locs B.cells B.slots ∧ Post ⟨T.setVm vm₁, locs, cells, slots⟩ argsL.toArray v B ∧
      ∀ target, Steps p.tables e below (B.U.setTop { g with pc := g.pc + 3, stack := v.toList ++ rest }) target → Steps p.tables e below (T.setTop g) target := by
  obtain ⟨mk, methM, cM, hnamed, hmethM, -, -, -, -, -, -, hsigM⟩ := Cond.codeWith_spec hcode
  have hstatic : methM.isStatic = true := Cond.static_spec hnamed hmethM hstat
  obtain ⟨kP, hkP, -⟩ := className_of_methodNamed hnamed
  have hinitP : kP.init = .initialized := Cond.initialized_spec (findClass_of_methodNamed hnamed) hkP hinit
  obtain ⟨vm₁, X₁, hstep₁⟩ := X.invokestatic hexec hown hlink hnamed hmethM hstatic hkP hinitP hy (g := g) hg (argsL := argsL) (rest := rest) (hlen _ hsigM) hstack hdg
  obtain ⟨v, B, X', hpost, hsteps⟩ := hK m meth c ⟨T.setVm vm₁, locs, cells, slots⟩ { g with stack := rest } (.invokestatic index) mk argsL.toArray X₁ hg hsize hdg hW (X₁.named hnamed) (hpre vm₁ X₁.warmed)
  exact ⟨v, vm₁, B, X₁.warmed, X', hpost, fun target h => hstep₁ _ fun acts => by rw [doInvoke_state]; exact hsteps.trans h⟩
theorem vx_runSW {y : MethodName} {bytes cc : ByteArray} {maxL nL mc ms n index : Nat} {ret : Option FieldType} {hh : List (Nat × Nat × Nat × Nat)} {ws : List Cond} {rm : Room} {Pc : Array Value → State → Prop} {Qc : Array Value → State → Outcome → State → Prop} {free : Addr → Prop} {Ts : List Cond} {own : String} {As rest : List Value} {g : JFrame}
    (S : CallFix p m c cc nL s args Ts own) (hM : Met l y ws rm Pc Qc mc ms free) (cw : vx_CSW R s args own index y bytes maxL ret hh ws rm mc ms n) (hp : PreS s H Pc As)
    (hg : g.method = m) (hn : As.length = n) (hsize : g.locals.size = nL) (hstack : g.stack = As.reverse ++ rest) (hW : 2 * g.monitorRoom + (rest.map fun v => v.category).sum ≤ 8) (hdg : decode cc g.pc = .ok (.invokestatic index, 3)) (hf : cells + mc ≤ R.cells ∧ slots + ms ≤ R.slots) :
    va_Run p l e R s m args below meth c H locs cells slots mc ms g rest (Qc As.toArray) (free) := by
  obtain ⟨⟨hrc, hrs, hfr, hlo, hws, hcw⟩, hcode, hini, hy, hlen, hl, hstt⟩ := cw
  have hK : Back l R p e below s args y 3 8 (PreOf R mc ms Pc) (PostOf Qc mc ms free) := va_backW (hh := hh) (bytes := bytes) (maxL := maxL) (ret := ret) hM hp.1 hrc hrs hfr hlo hws hcw (fun a' U hW => word_at hW (Or.inl (by first | rfl | simp [Cond.onTables, Cond.keeps, Cond.steady])) hini)
  obtain ⟨hx, hb, hml, ho, -⟩ := S
  intro T hT X
  obtain ⟨v, vm₁, ⟨U', l2, c2, s2⟩, hW₁, X', ⟨g', mk, t, L, e1, e2, hq, h1, hL, h2, h3⟩, st⟩ := vx_callSW X hx (hh := hh) (bytes := bytes) (maxL := maxL) (ret := ret) ho hl hstt hini hcode hy hK hg (hsize.trans hml.symm) (argsL := As) (rest := rest) (fun sig h => hn.trans (hlen sig h)) hstack hW (by rw [hb]; exact hdg)
    (fun vm₁ hW₁ => ⟨hf.1, hf.2, hp.2 (T.setVm vm₁) hT hW₁⟩)
  dsimp only [Pt.U, Pt.locs, Pt.cells, Pt.slots] at X' e1 e2 h1 h2 h3 st
  subst h1; subst h2; subst h3
  exact ⟨v, (T.setVm vm₁).calling g' mk As.toArray, t, U', L, hT, X', hL, e1, e2, hq, st⟩
end VXS0
/-- as CM, of a method with a table of its own -/
def CMW (l : Launch) (D : va_G) (k : Nat → ClassId) (y : MethodName) (cy : ByteArray) (ny : Nat) (ret : Option FieldType) (hh : List (Nat × Nat × Nat × Nat)) (fr lo : Nat) (av : List Value) (w0 : va_W) (post : Option Value → va_W → Prop) (mc ms gr : Nat) : Prop :=
  ∀ sz : Nat, Met l y (Cond.codeWith y cy ny ret hh :: WG) { frames := fr, cells := mc, slots := ms, locals := lo }
    (va_Pc av (fun U => U.heap.size = sz ∧ va_P D vwCl w0 U.heap ∧ va_K D vwCl (tyG k) U ∧ va_D (fun _ => True) w0 ∧ NF U))
    (fun _ st o t => (∃ (rv : Option Value) (w1 : va_W), o = .returned rv ∧ post rv w1 ∧ va_P D vwCl w1 t.heap ∧ va_D (va_A w0 sz) w1 ∧ sz + gr ≤ t.heap.size) ∧ va_F (va_A w0 sz) st t) mc ms (va_A w0 sz)
theorem CMW.of {l : Launch} {D : va_G} {k : Nat → ClassId} {y : MethodName} {cy : ByteArray} {ny : Nat} {ret : Option FieldType} {hh : List (Nat × Nat × Nat × Nat)} {fr lo : Nat} {av : List Value} {w0 : va_W} {post : Option Value → va_W → Prop} {mc ms gr : Nat} {lv0 : List (Nat × Value)}
    (hy : plainName y.cls = true) (hn : (lg_sl av).length ≤ ny) (hlv : lv_args 0 av = lv0)
    (body : ∀ (p : Program) (e : Env) (s : State) (m : MethodId) (below : List Frame) (meth : Method) (c : Code), Cx p s m av.toArray c D k (va_A w0 s.heap.size) cy y.cls ny → meth.sig.returnType = ret → meth.locks = false → meth.name = y.name → l.admits e →
      G p l e { frames := fr, cells := mc, slots := ms, locals := lo } s m av.toArray below meth c D ny (va_A w0 s.heap.size) (QM below D av.toArray s w0 post mc ms gr) w0 lv0 0 0 0 0 []) :
    CMW l D k y cy ny ret hh fr lo av w0 post mc ms gr := by
  intro sz
  refine va_MetW (cc := cy) (maxL := ny) (ret := ret) (hh := hh) hy rfl ?_
  intro p e s m args below meth c s₁ B hml hv
  obtain ⟨rfl, hsz, hP, hK, hD0, hNF⟩ := hv
  subst hsz
  have hts0 := atoms_spec (ws := Cond.codeWith y cy ny ret hh :: WG) B.pre
  have hown : s.vm.findClass y.cls = some m.cls := findClass_of_methodNamed B.named
  have hA : ∀ q : Nat, s.heap.size ≤ q → va_A w0 s.heap.size q := fun q h => Or.inr h
  have hl := lv_entry av (n := ny) hn
  rw [hlv] at hl
  rw [lg_entry_eq]
  exact body p e s m below meth c ⟨B.exec, B.bytes, hml, hown, fun w hw => hts0 w (List.mem_cons_of_mem _ hw), hK, hA, hNF⟩ B.returns B.notSynchronized (name_of_methodNamed B.named B.method).1 (Stand.of_body B).admits s.heap [] hP hD0.self va_S.rf (Nat.le_refl _) _ hl
theorem wg_SW {own : String} {idx ny : Nat} {y : MethodName} {cy : ByteArray} {ret : Option FieldType} {hh : List (Nat × Nat × Nat × Nat)} (h1 : Cond.methodLink own idx y ∈ WG) (h2 : Cond.static y ∈ WG) (h4 : Cond.initialized y.cls ∈ WG) (h5 : Cond.codeWith y cy ny ret hh ∈ WG) : GoodIn WG (va_wsS own idx y (Cond.codeWith y cy ny ret hh :: WG)) :=
  wg_in (wg_cons h1 (wg_cons h2 (wg_cons h4 (wg_cons h5 (fun _ h => h)))))
section GLAW
variable {p : Program} {l : Launch} {e : Env} {R : Room} {s : State} {m : MethodId} {args : Array Value} {below : List Frame} {meth : Method} {c : Code} {D : va_G} {k : Nat → ClassId} {A : Nat → Prop} {cc : ByteArray} {own : String} {nL : Nat} {Q : State → Prop} {ws : va_W} {lv : List (Nat × Value)} {cells slots g pc : Nat} {st : List Value}
theorem g_callSW (C : Cx p s m args c D k A cc own nL) {y : MethodName} {cy : ByteArray} {ny idx : Nat} {ret : Option FieldType} {fr lo b mc ms gr : Nat} {As : List Value} {w0 wr : va_W} {post : Option Value → va_W → Prop} {hh : List (Nat × Nat × Nat × Nat)} {nA : Nat} (hAs : As.length = nA) (hM : CMW l D k y cy ny ret hh fr lo As w0 post mc ms gr) (h1 : Cond.methodLink own idx y ∈ WG) (h2 : Cond.static y ∈ WG) (h4 : Cond.initialized y.cls ∈ WG) (h5 : Cond.codeWith y cy ny ret hh ∈ WG) (hd : y.cls ≠ "java/lang/invoke/MethodHandle" ∧ y.cls ≠ "java/lang/invoke/VarHandle" ∧ (parseMethodDescriptor y.desc).map (fun d => d.parameters.length) = some nA) (hdg : decode cc pc = .ok (.invokestatic idx, 3)) (hR : fr + 1 ≤ R.frames ∧ 8 + (ny + 11) + lo ≤ R.locals) (isC isR : List Nat) (hC : isC.map (fun i => ws[i]?) = w0.map some) (hRr : isR.map (fun i => ws[i]?) = wr.map some) (hn : va_nd isR = true) (hnc : va_nd isC = true) (hdis : ∀ i ∈ isR, i ∉ isC) (hcat : (st.map fun v => v.category).sum ≤ 8) (hf : cells + mc ≤ R.cells ∧ slots + ms ≤ R.slots) (kk : ∀ (rv : Option Value) (w1 : va_W), post rv w1 → G p l e R s m args below meth c D nL A Q (wr ++ w1) lv (cells + mc) (slots + ms) (g + gr) (pc + 3) (rv.toList ++ st)) : G p l e R s m args below meth c D nL A Q ws lv cells slots g pc (As.reverse ++ st) := by
  intro H locs hP hD hS hZ ls hl
  have hTs := C.2.2.2.2.1
  have hPc := hP.sub (ws' := w0) isC (sub_of hC)
  have hDc := hD.sub (ws' := w0) isC hnc hC
  have hFc := va_free (wc := w0) hD hS C.2.2.2.2.2.2.1 isC hC
  exact g_done C isC isR hC hRr hn hnc hdis hP hD hS hZ hl hFc (vx_runSW (As := As) (rest := st) ⟨C.1, C.2.1, C.2.2.1, C.2.2.2.1, hTs⟩ (hM H.size) (vx_cwSW nA hTs (wg_SW h1 h2 h4 h5) rfl rfl rfl hd hR) ⟨(fun a U g9 mk q => ⟨q.1, q.2.1, q.2.2.1, va_K.moved (u := U) (U := U.calling g9 mk a) (Vm.Alike.refl U.vm) q.2.2.2.1, q.2.2.2.2.1, NF.same (u := U) (U := U.calling g9 mk a) rfl q.2.2.2.2.2⟩), (fun U hU hW => ⟨rfl, by rw [hU], by rw [hU]; exact hPc, va_K.moved hW.alike C.2.2.2.2.2.1, hDc.weaken (fun _ _ _ _ => trivial), NF.warm hW C.2.2.2.2.2.2.2⟩)⟩ rfl hAs hl.1 rfl (lv_room hcat) hdg hf) (fun _ => rfl) kk
theorem g_last_n (C : Cx p s m args c D k A cc own nL) {a n j : Nat} {f : Nat → Int64} (q0 : Nat) (ws' : va_W) {i : Int32} {x : Int64} (ha : ws[q0]? = some (a, aJ k n f)) (hj : j < n) (hn : n < 2 ^ 31) (hi : i = nI j) (hw : ws.set q0 (a, aJ k n (vp_updL f j x)) = ws') (hdg : decode cc pc = .ok (.lastore, 1)) (kk : G p l e R s m args below meth c D nL A Q ws' lv cells slots g (pc + 1) st) : G p l e R s m args below meth c D nL A Q ws lv cells slots g pc (.long x :: .int i :: .ref a :: st) := by
  subst hi
  subst hw
  have hcl : (nI j).toNatClampNeg = j := nI_clamp (by omega)
  intro H locs hP hD hS hZ ls hl
  refine va_last C.1 C.2.1 C.2.2.2.2.2.1 hP hD (S_rf hS) q0 1 ha rfl (vp_in_nI hj hn) hdg (fun H1 locs1 hP1 hD1 hS1 => ?_)
  rw [hcl] at hP1 hD1
  exact kk H1 locs1 hP1 hD1 (S_tr hS hS1) (Nat.le_trans hZ hS1.1) ls hl
theorem g_lald_n (C : Cx p s m args c D k A cc own nL) {a n j : Nat} {f : Nat → Int64} (q0 : Nat) {i : Int32} (ha : ws[q0]? = some (a, aJ k n f)) (hj : j < n) (hn : n < 2 ^ 31) (hi : i = nI j) (hdg : decode cc pc = .ok (.laload, 1)) (kk : G p l e R s m args below meth c D nL A Q ws lv cells slots g (pc + 1) (.long (f j) :: st)) : G p l e R s m args below meth c D nL A Q ws lv cells slots g pc (.int i :: .ref a :: st) := by
  subst hi
  intro H locs hP hD hS hZ ls hl
  have h1 := kk H locs hP hD hS hZ ls hl
  refine va_lald C.1 C.2.1 C.2.2.2.2.2.1 hP q0 1 ha rfl (vp_in_nI hj hn) hdg ?_
  rw [nI_clamp (by omega)]
  exact h1
theorem g_lcmp (C : Cx p s m args c D k A cc own nL) {x y : Int64} (hdg : decode cc pc = .ok (.lcmp, 1)) (kk : G p l e R s m args below meth c D nL A Q ws lv cells slots g (pc + 1) (.int (lg_cmp x y) :: st)) : G p l e R s m args below meth c D nL A Q ws lv cells slots g pc (.long y :: .long x :: st) := fun H locs hP hD hS hZ ls hl => W.lcmp C.1 C.2.1 hdg (kk H locs hP hD hS hZ ls hl)
theorem lg_cmp_e (x : Int64) : lg_cmp x x = 0 := by unfold lg_cmp; simp
theorem g_table (C : Cx p s m args c D k A cc own nL) {dflt lo hi : Int} {offs : Array Int} {len : Nat} {x : Int32} {off : Int} (tgt : Nat) (hdg : decode cc pc = .ok (.tableswitch dflt lo hi offs, len)) (h1 : ¬ x.toInt < lo) (h2 : ¬ hi < x.toInt) (ho : offs[(x.toInt - lo).toNat]? = some off) (ht : (pc : Int) + off = (tgt : Int)) (kk : G p l e R s m args below meth c D nL A Q ws lv cells slots g tgt st) : G p l e R s m args below meth c D nL A Q ws lv cells slots g pc (.int x :: st) := fun H locs hP hD hS hZ ls hl => lv_tableIn C.1 C.2.1 hdg h1 h2 ho ht (kk H locs hP hD hS hZ ls hl)
theorem g_newD (C : Cx p s m args c D k A cc own nL) (N : Nat) {n : Int32} (harr : Cond.arrayClass .double ∈ WG) (hn : ¬ n < 0) (hN : n.toNatClampNeg = N) (hN2 : N ≤ 67108864) (hcells : cells + 1 ≤ R.cells) (hslots : slots + N ≤ R.slots) (hdg : decode cc pc = .ok (.newarray .double, 2))
    (kk : ∀ q : Nat, G p l e R s m args below meth c D nL A Q (ws ++ [(q, .inl (k 5, N, .inr (.inr (.inr (.inl (fun _ => 0))))))]) lv (cells + 1) (slots + N) (g + 1) (pc + 2) (.ref q :: st)) : G p l e R s m args below meth c D nL A Q ws lv cells slots g pc (.int n :: st) :=
  g_newa (atype := .double) C 5 rfl rfl harr (a0 := (N, .inr (.inr (.inr (.inl (fun _ => 0)))))) rfl hn hN (by simp only [newarray.typeOf, componentBytes]; omega) hcells hslots hdg kk
theorem g_sld (C : Cx p s m args c D k A cc own nL) {b L' j : Nat} {xs : Nat → Int32} (hX : va_X b L' xs s s.heap) (hbl : b < s.heap.size) (hbA : ¬ A b) {i : Int32} (hj : j < L') (hL : L' < 2 ^ 31) (hi : i = nI j) (hdg : decode cc pc = .ok (.iaload, 1)) (kk : G p l e R s m args below meth c D nL A Q ws lv cells slots g (pc + 1) (.int (xs j) :: st)) : G p l e R s m args below meth c D nL A Q ws lv cells slots g pc (.int i :: .ref b :: st) := by
  subst hi
  intro H locs hP hD hS hZ ls hl
  have h1 := kk H locs hP hD hS hZ ls hl
  refine va_sld C.1 C.2.1 hX hbl hbA hS (vp_in_nI hj hL) hdg ?_
  rw [nI_clamp (by omega)]
  exact h1
theorem g_slen (C : Cx p s m args c D k A cc own nL) {b L' : Nat} {xs : Nat → Int32} (hX : va_X b L' xs s s.heap) (hbl : b < s.heap.size) (hbA : ¬ A b) (hdg : decode cc pc = .ok (.arraylength, 1)) (kk : G p l e R s m args below meth c D nL A Q ws lv cells slots g (pc + 1) (.int (nI L') :: st)) : G p l e R s m args below meth c D nL A Q ws lv cells slots g pc (.ref b :: st) := fun H locs hP hD hS hZ ls hl => va_slen C.1 C.2.1 hX hbl hbA hS hdg (kk H locs hP hD hS hZ ls hl)
end GLAW
end
section
theorem dX8_at_0 : decode cX8_at 0 = .ok (.iload_n 1, 1) := by decide +kernel
theorem dX8_at_1 : decode cX8_at 1 = .ok (.ifCond .lt 21, 3) := by decide +kernel
theorem dX8_at_22 : decode cX8_at 22 = .ok (.iconst 0, 1) := by decide +kernel
theorem dX8_at_23 : decode cX8_at 23 = .ok (.ireturn, 1) := by decide +kernel
theorem dX8_at_4 : decode cX8_at 4 = .ok (.iload_n 1, 1) := by decide +kernel
theorem dX8_at_5 : decode cX8_at 5 = .ok (.aload_n 0, 1) := by decide +kernel
theorem dX8_at_6 : decode cX8_at 6 = .ok (.getfield 7, 3) := by decide +kernel
theorem q_0 : (Jvm.Cond.fieldLink "Chipfold$Row" (7 : Nat) "Chipfold$Row" "cells" "[I") ∈ WG := wg_1 (List.mem_of_getElem? (i := 77) (by decide +kernel)) (by decide +kernel)
theorem inX8 : ∀ w ∈ u_ws RX8 TX8 1, w ∈ WG := by decide +kernel
theorem dX8_at_9 : decode cX8_at 9 = .ok (.arraylength, 1) := by decide +kernel
theorem dX8_at_10 : decode cX8_at 10 = .ok (.if_icmp .ge 12, 3) := by decide +kernel
theorem dX8_at_13 : decode cX8_at 13 = .ok (.aload_n 0, 1) := by decide +kernel
theorem dX8_at_14 : decode cX8_at 14 = .ok (.getfield 7, 3) := by decide +kernel
theorem dX8_at_17 : decode cX8_at 17 = .ok (.iload_n 1, 1) := by decide +kernel
theorem dX8_at_18 : decode cX8_at 18 = .ok (.iaload, 1) := by decide +kernel
theorem dX8_at_19 : decode cX8_at 19 = .ok (.goto 4, 3) := by decide +kernel
theorem dX8_write_0 : decode cX8_write 0 = .ok (.iload_n 1, 1) := by decide +kernel
theorem dX8_write_1 : decode cX8_write 1 = .ok (.ifCond .lt 19, 3) := by decide +kernel
theorem dX8_write_20 : decode cX8_write 20 = .ok (.return_, 1) := by decide +kernel
theorem dX8_write_4 : decode cX8_write 4 = .ok (.iload_n 1, 1) := by decide +kernel
theorem dX8_write_5 : decode cX8_write 5 = .ok (.aload_n 0, 1) := by decide +kernel
theorem dX8_write_6 : decode cX8_write 6 = .ok (.getfield 7, 3) := by decide +kernel
theorem dX8_write_9 : decode cX8_write 9 = .ok (.arraylength, 1) := by decide +kernel
theorem dX8_write_10 : decode cX8_write 10 = .ok (.if_icmp .ge 10, 3) := by decide +kernel
theorem dX8_write_13 : decode cX8_write 13 = .ok (.aload_n 0, 1) := by decide +kernel
theorem dX8_write_14 : decode cX8_write 14 = .ok (.getfield 7, 3) := by decide +kernel
theorem dX8_write_17 : decode cX8_write 17 = .ok (.iload_n 1, 1) := by decide +kernel
theorem dX8_write_18 : decode cX8_write 18 = .ok (.iload_n 2, 1) := by decide +kernel
theorem dX8_write_19 : decode cX8_write 19 = .ok (.iastore, 1) := by decide +kernel
theorem dX8_add_0 : decode cX8_add 0 = .ok (.iload_n 1, 1) := by decide +kernel
theorem dX8_add_1 : decode cX8_add 1 = .ok (.ifCond .lt 22, 3) := by decide +kernel
theorem dX8_add_23 : decode cX8_add 23 = .ok (.return_, 1) := by decide +kernel
theorem dX8_add_4 : decode cX8_add 4 = .ok (.iload_n 1, 1) := by decide +kernel
theorem dX8_add_5 : decode cX8_add 5 = .ok (.aload_n 0, 1) := by decide +kernel
theorem dX8_add_6 : decode cX8_add 6 = .ok (.getfield 7, 3) := by decide +kernel
theorem dX8_add_9 : decode cX8_add 9 = .ok (.arraylength, 1) := by decide +kernel
theorem dX8_add_10 : decode cX8_add 10 = .ok (.if_icmp .ge 13, 3) := by decide +kernel
theorem dX8_add_13 : decode cX8_add 13 = .ok (.aload_n 0, 1) := by decide +kernel
theorem dX8_add_14 : decode cX8_add 14 = .ok (.getfield 7, 3) := by decide +kernel
theorem dX8_add_17 : decode cX8_add 17 = .ok (.iload_n 1, 1) := by decide +kernel
theorem dX8_add_18 : decode cX8_add 18 = .ok (.dup2, 1) := by decide +kernel
theorem dX8_add_19 : decode cX8_add 19 = .ok (.iaload, 1) := by decide +kernel
theorem dX8_add_20 : decode cX8_add 20 = .ok (.iload_n 2, 1) := by decide +kernel
theorem dX8_add_21 : decode cX8_add 21 = .ok (.iadd, 1) := by decide +kernel
theorem dX8_add_22 : decode cX8_add 22 = .ok (.iastore, 1) := by decide +kernel
theorem dX8_init_0 : decode cX8_init 0 = .ok (.aload_n 0, 1) := by decide +kernel
theorem dX8_init_1 : decode cX8_init 1 = .ok (.invokespecial 1, 3) := by decide +kernel
theorem q_1 : (Jvm.Cond.methodLink "Chipfold$Row" (1 : Nat) ({ cls := "java/lang/Object", name := "<init>", desc := "()V" } : Jvm.MethodName)) ∈ WG := wg_1 (List.mem_of_getElem? (i := 76) (by decide +kernel)) (by decide +kernel)
theorem q_2 : (Jvm.Cond.instanceMethod ({ cls := "java/lang/Object", name := "<init>", desc := "()V" } : Jvm.MethodName)) ∈ WG := wg_1 (List.mem_of_getElem? (i := 43) (by decide +kernel)) (by decide +kernel)
theorem q_3 : (Jvm.Cond.code ({ cls := "java/lang/Object", name := "<init>", desc := "()V" } : Jvm.MethodName) object_method_1_code (1 : Nat) (Option.none : Option Jvm.ClassFile.FieldType)) ∈ WG := wg_1 (List.mem_of_getElem? (i := 44) rfl) rfl
theorem dX8_init_4 : decode cX8_init 4 = .ok (.aload_n 0, 1) := by decide +kernel
theorem dX8_init_5 : decode cX8_init 5 = .ok (.iload_n 1, 1) := by decide +kernel
theorem dX8_init_6 : decode cX8_init 6 = .ok (.ifCond .ge 7, 3) := by decide +kernel
theorem dX8_init_13 : decode cX8_init 13 = .ok (.iload_n 1, 1) := by decide +kernel
theorem dX8_init_14 : decode cX8_init 14 = .ok (.newarray .int, 2) := by decide +kernel
theorem q_4 : (Jvm.Cond.arrayClass Jvm.ClassFile.FieldType.int) ∈ WG := wg_1 (List.mem_of_getElem? (i := 64) (by decide +kernel)) (by decide +kernel)
theorem dX8_init_16 : decode cX8_init 16 = .ok (.putfield 7, 3) := by decide +kernel
theorem dX8_init_19 : decode cX8_init 19 = .ok (.return_, 1) := by decide +kernel
theorem dX8_fill_0 : decode cX8_fill 0 = .ok (.iconst 0, 1) := by decide +kernel
theorem dX8_fill_1 : decode cX8_fill 1 = .ok (.istore_n 2, 1) := by decide +kernel
theorem dX8_fill_2 : decode cX8_fill 2 = .ok (.iload_n 2, 1) := by decide +kernel
theorem dX8_fill_3 : decode cX8_fill 3 = .ok (.aload_n 0, 1) := by decide +kernel
theorem dX8_fill_4 : decode cX8_fill 4 = .ok (.getfield 7, 3) := by decide +kernel
theorem dX8_fill_7 : decode cX8_fill 7 = .ok (.arraylength, 1) := by decide +kernel
theorem dX8_fill_8 : decode cX8_fill 8 = .ok (.if_icmp .ge 16, 3) := by decide +kernel
theorem dX8_fill_24 : decode cX8_fill 24 = .ok (.return_, 1) := by decide +kernel
theorem dX8_fill_11 : decode cX8_fill 11 = .ok (.aload_n 0, 1) := by decide +kernel
theorem dX8_fill_12 : decode cX8_fill 12 = .ok (.getfield 7, 3) := by decide +kernel
theorem dX8_fill_15 : decode cX8_fill 15 = .ok (.iload_n 2, 1) := by decide +kernel
theorem dX8_fill_16 : decode cX8_fill 16 = .ok (.iload_n 1, 1) := by decide +kernel
theorem dX8_fill_17 : decode cX8_fill 17 = .ok (.iastore, 1) := by decide +kernel
theorem dX8_fill_18 : decode cX8_fill 18 = .ok (.iinc 2 1, 3) := by decide +kernel
theorem dX8_fill_21 : decode cX8_fill 21 = .ok (.goto (-19), 3) := by decide +kernel
theorem dX8_copy_0 : decode cX8_copy 0 = .ok (.iconst 0, 1) := by decide +kernel
theorem dX8_copy_1 : decode cX8_copy 1 = .ok (.istore_n 2, 1) := by decide +kernel
theorem dX8_copy_2 : decode cX8_copy 2 = .ok (.iload_n 2, 1) := by decide +kernel
theorem dX8_copy_3 : decode cX8_copy 3 = .ok (.aload_n 0, 1) := by decide +kernel
theorem dX8_copy_4 : decode cX8_copy 4 = .ok (.getfield 7, 3) := by decide +kernel
theorem dX8_copy_7 : decode cX8_copy 7 = .ok (.arraylength, 1) := by decide +kernel
theorem dX8_copy_8 : decode cX8_copy 8 = .ok (.if_icmp .ge 20, 3) := by decide +kernel
theorem dX8_copy_28 : decode cX8_copy 28 = .ok (.return_, 1) := by decide +kernel
theorem dX8_copy_11 : decode cX8_copy 11 = .ok (.aload_n 0, 1) := by decide +kernel
theorem dX8_copy_12 : decode cX8_copy 12 = .ok (.getfield 7, 3) := by decide +kernel
theorem dX8_copy_15 : decode cX8_copy 15 = .ok (.iload_n 2, 1) := by decide +kernel
theorem dX8_copy_16 : decode cX8_copy 16 = .ok (.aload_n 1, 1) := by decide +kernel
theorem dX8_copy_17 : decode cX8_copy 17 = .ok (.iload_n 2, 1) := by decide +kernel
theorem dX8_copy_18 : decode cX8_copy 18 = .ok (.invokevirtual 13, 3) := by decide +kernel
theorem q_5 : (Jvm.Cond.code ({ cls := "Chipfold$Row", name := "at", desc := "(I)I" } : Jvm.MethodName) prog_10_method_2_code (2 : Nat) (Option.some Jvm.ClassFile.FieldType.int)) ∈ WG := wg_2 (List.mem_of_getElem? (i := 124) rfl) rfl
theorem q_6 : (Jvm.Cond.initialized "Chipfold$Row") ∈ WG := wg_1 (List.mem_of_getElem? (i := 4) (by decide +kernel)) (by decide +kernel)
theorem q_7 : (Jvm.Cond.selects "Chipfold$Row" ({ cls := "Chipfold$Row", name := "at", desc := "(I)I" } : Jvm.MethodName) ({ cls := "Chipfold$Row", name := "at", desc := "(I)I" } : Jvm.MethodName)) ∈ WG := wg_2 (List.mem_of_getElem? (i := 123) (by decide +kernel)) (by decide +kernel)
theorem q_8 : (Jvm.Cond.methodLink "Chipfold$Row" (13 : Nat) ({ cls := "Chipfold$Row", name := "at", desc := "(I)I" } : Jvm.MethodName)) ∈ WG := wg_2 (List.mem_of_getElem? (i := 152) (by decide +kernel)) (by decide +kernel)
theorem q_9 : (Jvm.Cond.instanceMethod ({ cls := "Chipfold$Row", name := "at", desc := "(I)I" } : Jvm.MethodName)) ∈ WG := wg_2 (List.mem_of_getElem? (i := 122) (by decide +kernel)) (by decide +kernel)
theorem dX8_copy_21 : decode cX8_copy 21 = .ok (.iastore, 1) := by decide +kernel
theorem dX8_copy_22 : decode cX8_copy 22 = .ok (.iinc 2 1, 3) := by decide +kernel
theorem dX8_copy_25 : decode cX8_copy 25 = .ok (.goto (-23), 3) := by decide +kernel
theorem dX8_sum_0 : decode cX8_sum 0 = .ok (.iconst 0, 1) := by decide +kernel
theorem dX8_sum_1 : decode cX8_sum 1 = .ok (.istore_n 1, 1) := by decide +kernel
theorem dX8_sum_2 : decode cX8_sum 2 = .ok (.iconst 0, 1) := by decide +kernel
theorem dX8_sum_3 : decode cX8_sum 3 = .ok (.istore_n 2, 1) := by decide +kernel
theorem dX8_sum_4 : decode cX8_sum 4 = .ok (.iload_n 2, 1) := by decide +kernel
theorem dX8_sum_5 : decode cX8_sum 5 = .ok (.aload_n 0, 1) := by decide +kernel
theorem dX8_sum_6 : decode cX8_sum 6 = .ok (.getfield 7, 3) := by decide +kernel
theorem dX8_sum_9 : decode cX8_sum 9 = .ok (.arraylength, 1) := by decide +kernel
theorem dX8_sum_10 : decode cX8_sum 10 = .ok (.if_icmp .ge 18, 3) := by decide +kernel
theorem dX8_sum_28 : decode cX8_sum 28 = .ok (.iload_n 1, 1) := by decide +kernel
theorem dX8_sum_29 : decode cX8_sum 29 = .ok (.ireturn, 1) := by decide +kernel
theorem dX8_sum_13 : decode cX8_sum 13 = .ok (.iload_n 1, 1) := by decide +kernel
theorem dX8_sum_14 : decode cX8_sum 14 = .ok (.aload_n 0, 1) := by decide +kernel
theorem dX8_sum_15 : decode cX8_sum 15 = .ok (.getfield 7, 3) := by decide +kernel
theorem dX8_sum_18 : decode cX8_sum 18 = .ok (.iload_n 2, 1) := by decide +kernel
theorem dX8_sum_19 : decode cX8_sum 19 = .ok (.iaload, 1) := by decide +kernel
theorem dX8_sum_20 : decode cX8_sum 20 = .ok (.iadd, 1) := by decide +kernel
theorem dX8_sum_21 : decode cX8_sum 21 = .ok (.istore_n 1, 1) := by decide +kernel
theorem dX8_sum_22 : decode cX8_sum 22 = .ok (.iinc 2 1, 3) := by decide +kernel
theorem dX8_sum_25 : decode cX8_sum 25 = .ok (.goto (-21), 3) := by decide +kernel
theorem dX8_isLike_0 : decode cX8_isLike 0 = .ok (.iconst 0, 1) := by decide +kernel
theorem dX8_isLike_1 : decode cX8_isLike 1 = .ok (.istore_n 2, 1) := by decide +kernel
theorem dX8_isLike_2 : decode cX8_isLike 2 = .ok (.iload_n 2, 1) := by decide +kernel
theorem dX8_isLike_3 : decode cX8_isLike 3 = .ok (.aload_n 0, 1) := by decide +kernel
theorem dX8_isLike_4 : decode cX8_isLike 4 = .ok (.getfield 7, 3) := by decide +kernel
theorem dX8_isLike_7 : decode cX8_isLike 7 = .ok (.arraylength, 1) := by decide +kernel
theorem dX8_isLike_8 : decode cX8_isLike 8 = .ok (.if_icmp .ge 25, 3) := by decide +kernel
theorem dX8_isLike_33 : decode cX8_isLike 33 = .ok (.iconst 1, 1) := by decide +kernel
theorem dX8_isLike_34 : decode cX8_isLike 34 = .ok (.ireturn, 1) := by decide +kernel
theorem dX8_isLike_11 : decode cX8_isLike 11 = .ok (.aload_n 0, 1) := by decide +kernel
theorem dX8_isLike_12 : decode cX8_isLike 12 = .ok (.getfield 7, 3) := by decide +kernel
theorem dX8_isLike_15 : decode cX8_isLike 15 = .ok (.iload_n 2, 1) := by decide +kernel
theorem dX8_isLike_16 : decode cX8_isLike 16 = .ok (.iaload, 1) := by decide +kernel
theorem dX8_isLike_17 : decode cX8_isLike 17 = .ok (.aload_n 1, 1) := by decide +kernel
theorem dX8_isLike_18 : decode cX8_isLike 18 = .ok (.iload_n 2, 1) := by decide +kernel
theorem dX8_isLike_19 : decode cX8_isLike 19 = .ok (.invokevirtual 13, 3) := by decide +kernel
theorem dX8_isLike_22 : decode cX8_isLike 22 = .ok (.if_icmp .eq 5, 3) := by decide +kernel
theorem dX8_isLike_27 : decode cX8_isLike 27 = .ok (.iinc 2 1, 3) := by decide +kernel
theorem dX8_isLike_30 : decode cX8_isLike 30 = .ok (.goto (-28), 3) := by decide +kernel
theorem dX8_isLike_25 : decode cX8_isLike 25 = .ok (.iconst 0, 1) := by decide +kernel
theorem dX8_isLike_26 : decode cX8_isLike 26 = .ok (.ireturn, 1) := by decide +kernel
/-- what a row answers at an index: 0 outside of it -/
def rAt (n : Nat) (f : Nat → Int32) (i : Int32) : Int32 := if ¬ i < 0 ∧ ¬ nI n ≤ i then f i.toNatClampNeg else 0
theorem rAt_n {n : Nat} (hn : n < 2 ^ 31) (f : Nat → Int32) {j : Nat} (h : j < n) : rAt n f (nI j) = f j := by
  have h1 : ¬ nI j < 0 := nI_pos (by omega)
  have h2 : ¬ nI n ≤ nI j := nI_ge h hn
  simp [rAt, h1, h2, nI_clamp (show j < 2 ^ 31 by omega)]
theorem rAt_o {n : Nat} (hn : n < 2 ^ 31) (f : Nat → Int32) {j : Nat} (h : n ≤ j) (hj : j < 2 ^ 31) : rAt n f (nI j) = 0 := by
  have h2 : nI n ≤ nI j := nI_le h hj
  simp [rAt, h2]
theorem upd_s (f : Nat → Int32) (i : Nat) (x : Int32) : upd f i x i = x := by simp [upd]
theorem upd_n (f : Nat → Int32) {i j : Nat} (x : Int32) (h : ¬ j = i) : upd f i x j = f j := by simp [upd, h]
set_option maxRecDepth 100000 in
set_option maxHeartbeats 400000 in
theorem c_X8_at {l : Launch} {D : va_G} {k : Nat → ClassId} (h : Nat) (a : Nat) (n : Nat) (f : Nat → Int32) (i : Int32) (hn : n < 2 ^ 31) : CM l D k yX8_at cX8_at 2 (some .int)  0 0 [.ref h, .int i] [(h, .inr (12, [.ref a])), (a, aI k n f)] (is1 (some (.int (rAt n f i))) [(h, .inr (12, [.ref a])), (a, aI k n f)]) 0 0 0 := by
  refine CM.of (lv0 := [(0, .ref h), (1, .int i)]) (by decide +kernel) (Nat.le_of_ble_eq_true rfl) rfl ?_
  intro p e s m below meth c C hr hlk hin had
  refine g_iload_n (pc := 0) C 1 rfl rfl dX8_at_0 ?_
  refine g_if_lt (pc := 1) C 22 (by decide) dX8_at_1 (fun c_1 => ?_) (fun c_1 => ?_)
  · refine g_iconst (pc := 22) (v := 0) C (by decide) dX8_at_22 ?_
    refine G.eqs (st' := [.int (rAt n f i)]) (congrArg (fun z9 => [Value.int z9]) (show (0 : Int32) = (rAt n f i) from by simp [rAt, *])) ?_
    exact g_iret (pc := 23) C hr hlk (by first | decide | omega) (by first | decide | omega) (by first | decide | omega) dX8_at_23 ⟨rfl, rfl⟩
  · refine g_iload_n (pc := 4) C 1 rfl rfl dX8_at_4 ?_
    refine g_aload_n (pc := 5) C 0 rfl rfl dX8_at_5 ?_
    refine g_get (pc := 6) C (T := TX8) inX8 0 rfl rfl 0 (by decide) q_0 rfl rfl dX8_at_6 ?_
    refine g_alen (pc := 9) C 1 rfl (t0 := 0) rfl (v := (nI n)) rfl dX8_at_9 ?_
    refine g_icmp_ge (pc := 10) C 22 (by decide) dX8_at_10 (fun c_10 => ?_) (fun c_10 => ?_)
    · refine g_iconst (pc := 22) (v := 0) C (by decide) dX8_at_22 ?_
      refine G.eqs (st' := [.int (rAt n f i)]) (congrArg (fun z9 => [Value.int z9]) (show (0 : Int32) = (rAt n f i) from by simp [rAt, *])) ?_
      exact g_iret (pc := 23) C hr hlk (by first | decide | omega) (by first | decide | omega) (by first | decide | omega) dX8_at_23 ⟨rfl, rfl⟩
    · refine g_aload_n (pc := 13) C 0 rfl rfl dX8_at_13 ?_
      refine g_get (pc := 14) C (T := TX8) inX8 0 rfl rfl 0 (by decide) q_0 rfl rfl dX8_at_14 ?_
      refine g_iload_n (pc := 17) C 1 rfl rfl dX8_at_17 ?_
      refine g_iald (pc := 18) C 1 rfl (vp_in_c (by assumption) (by assumption) (by first | assumption | decide)) dX8_at_18 ?_
      refine g_goto (pc := 19) C 23 (by decide) dX8_at_19 ?_
      refine G.eqs (st' := [.int (rAt n f i)]) (congrArg (fun z9 => [Value.int z9]) (show ((f i.toNatClampNeg) : Int32) = (rAt n f i) from by simp [rAt, *])) ?_
      exact g_iret (pc := 23) C hr hlk (by first | decide | omega) (by first | decide | omega) (by first | decide | omega) dX8_at_23 ⟨rfl, rfl⟩
def rPut (n : Nat) (f : Nat → Int32) (i x : Int32) : Nat → Int32 := if ¬ i < 0 ∧ ¬ nI n ≤ i then upd f i.toNatClampNeg x else f
set_option maxRecDepth 100000 in
set_option maxHeartbeats 400000 in
theorem c_X8_write {l : Launch} {D : va_G} {k : Nat → ClassId} (h : Nat) (a : Nat) (n : Nat) (f : Nat → Int32) (i : Int32) (x : Int32) (hn : n < 2 ^ 31) : CM l D k yX8_write cX8_write 3 none  0 0 [.ref h, .int i, .int x] [(h, .inr (12, [.ref a])), (a, aI k n f)] (is1 none [(h, .inr (12, [.ref a])), (a, aI k n (rPut n f i x))]) 0 0 0 := by
  refine CM.of (lv0 := [(0, .ref h), (1, .int i), (2, .int x)]) (by decide +kernel) (Nat.le_of_ble_eq_true rfl) rfl ?_
  intro p e s m below meth c C hr hlk hin had
  refine g_iload_n (pc := 0) C 1 rfl rfl dX8_write_0 ?_
  refine g_if_lt (pc := 1) C 20 (by decide) dX8_write_1 (fun c_1 => ?_) (fun c_1 => ?_)
  · refine G.fn (rPut n f i x) 1 [(h, .inr (12, [.ref a])), (a, aI k n (rPut n f i x))] rfl (fun j hj => by simp [rPut, *]) rfl ?_
    exact g_vret (pc := 20) C hr hlk (by first | decide | omega) (by first | decide | omega) (by first | decide | omega) dX8_write_20 ⟨rfl, rfl⟩
  · refine g_iload_n (pc := 4) C 1 rfl rfl dX8_write_4 ?_
    refine g_aload_n (pc := 5) C 0 rfl rfl dX8_write_5 ?_
    refine g_get (pc := 6) C (T := TX8) inX8 0 rfl rfl 0 (by decide) q_0 rfl rfl dX8_write_6 ?_
    refine g_alen (pc := 9) C 1 rfl (t0 := 0) rfl (v := (nI n)) rfl dX8_write_9 ?_
    refine g_icmp_ge (pc := 10) C 20 (by decide) dX8_write_10 (fun c_10 => ?_) (fun c_10 => ?_)
    · refine G.fn (rPut n f i x) 1 [(h, .inr (12, [.ref a])), (a, aI k n (rPut n f i x))] rfl (fun j hj => by simp [rPut, *]) rfl ?_
      exact g_vret (pc := 20) C hr hlk (by first | decide | omega) (by first | decide | omega) (by first | decide | omega) dX8_write_20 ⟨rfl, rfl⟩
    · refine g_aload_n (pc := 13) C 0 rfl rfl dX8_write_13 ?_
      refine g_get (pc := 14) C (T := TX8) inX8 0 rfl rfl 0 (by decide) q_0 rfl rfl dX8_write_14 ?_
      refine g_iload_n (pc := 17) C 1 rfl rfl dX8_write_17 ?_
      refine g_iload_n (pc := 18) C 2 rfl rfl dX8_write_18 ?_
      refine g_iast (pc := 19) C 1 [(h, .inr (12, [.ref a])), (a, aI k n (upd f i.toNatClampNeg x))] rfl (vp_in_c (by assumption) (by assumption) (by first | assumption | decide)) rfl dX8_write_19 ?_
      refine G.fn (rPut n f i x) 1 [(h, .inr (12, [.ref a])), (a, aI k n (rPut n f i x))] rfl (fun j hj => by simp [rPut, *]) rfl ?_
      exact g_vret (pc := 20) C hr hlk (by first | decide | omega) (by first | decide | omega) (by first | decide | omega) dX8_write_20 ⟨rfl, rfl⟩
def rAdd (n : Nat) (f : Nat → Int32) (i x : Int32) : Nat → Int32 := if ¬ i < 0 ∧ ¬ nI n ≤ i then upd f i.toNatClampNeg (f i.toNatClampNeg + x) else f
theorem rAdd_n {n : Nat} (hn : n < 2 ^ 31) (f : Nat → Int32) {j : Nat} (h : j < n) (x : Int32) : rAdd n f (nI j) x = upd f j (f j + x) := by
  have h1 : ¬ nI j < 0 := nI_pos (by omega)
  have h2 : ¬ nI n ≤ nI j := nI_ge h hn
  simp [rAdd, h1, h2, nI_clamp (show j < 2 ^ 31 by omega)]
set_option maxRecDepth 100000 in
set_option maxHeartbeats 400000 in
theorem c_X8_add {l : Launch} {D : va_G} {k : Nat → ClassId} (h : Nat) (a : Nat) (n : Nat) (f : Nat → Int32) (i : Int32) (x : Int32) (hn : n < 2 ^ 31) : CM l D k yX8_add cX8_add 3 none  0 0 [.ref h, .int i, .int x] [(h, .inr (12, [.ref a])), (a, aI k n f)] (is1 none [(h, .inr (12, [.ref a])), (a, aI k n (rAdd n f i x))]) 0 0 0 := by
  refine CM.of (lv0 := [(0, .ref h), (1, .int i), (2, .int x)]) (by decide +kernel) (Nat.le_of_ble_eq_true rfl) rfl ?_
  intro p e s m below meth c C hr hlk hin had
  refine g_iload_n (pc := 0) C 1 rfl rfl dX8_add_0 ?_
  refine g_if_lt (pc := 1) C 23 (by decide) dX8_add_1 (fun c_1 => ?_) (fun c_1 => ?_)
  · refine G.fn (rAdd n f i x) 1 [(h, .inr (12, [.ref a])), (a, aI k n (rAdd n f i x))] rfl (fun j hj => by simp [rAdd, *]) rfl ?_
    exact g_vret (pc := 23) C hr hlk (by first | decide | omega) (by first | decide | omega) (by first | decide | omega) dX8_add_23 ⟨rfl, rfl⟩
  · refine g_iload_n (pc := 4) C 1 rfl rfl dX8_add_4 ?_
    refine g_aload_n (pc := 5) C 0 rfl rfl dX8_add_5 ?_
    refine g_get (pc := 6) C (T := TX8) inX8 0 rfl rfl 0 (by decide) q_0 rfl rfl dX8_add_6 ?_
    refine g_alen (pc := 9) C 1 rfl (t0 := 0) rfl (v := (nI n)) rfl dX8_add_9 ?_
    refine g_icmp_ge (pc := 10) C 23 (by decide) dX8_add_10 (fun c_10 => ?_) (fun c_10 => ?_)
    · refine G.fn (rAdd n f i x) 1 [(h, .inr (12, [.ref a])), (a, aI k n (rAdd n f i x))] rfl (fun j hj => by simp [rAdd, *]) rfl ?_
      exact g_vret (pc := 23) C hr hlk (by first | decide | omega) (by first | decide | omega) (by first | decide | omega) dX8_add_23 ⟨rfl, rfl⟩
    · refine g_aload_n (pc := 13) C 0 rfl rfl dX8_add_13 ?_
      refine g_get (pc := 14) C (T := TX8) inX8 0 rfl rfl 0 (by decide) q_0 rfl rfl dX8_add_14 ?_
      refine g_iload_n (pc := 17) C 1 rfl rfl dX8_add_17 ?_
      refine g_dup2 (pc := 18) C rfl rfl dX8_add_18 ?_
      refine g_iald (pc := 19) C 1 rfl (vp_in_c (by assumption) (by assumption) (by first | assumption | decide)) dX8_add_19 ?_
      refine g_iload_n (pc := 20) C 2 rfl rfl dX8_add_20 ?_
      refine g_iadd (pc := 21) C dX8_add_21 ?_
      refine g_iast (pc := 22) C 1 [(h, .inr (12, [.ref a])), (a, aI k n (upd f i.toNatClampNeg ((f i.toNatClampNeg) + x)))] rfl (vp_in_c (by assumption) (by assumption) (by first | assumption | decide)) rfl dX8_add_22 ?_
      refine G.fn (rAdd n f i x) 1 [(h, .inr (12, [.ref a])), (a, aI k n (rAdd n f i x))] rfl (fun j hj => by simp [rAdd, *]) rfl ?_
      exact g_vret (pc := 23) C hr hlk (by first | decide | omega) (by first | decide | omega) (by first | decide | omega) dX8_add_23 ⟨rfl, rfl⟩
set_option maxRecDepth 100000 in
set_option maxHeartbeats 400000 in
theorem c_X8_at_n {l : Launch} {D : va_G} {k : Nat → ClassId} (h : Nat) (a : Nat) (n : Nat) (f : Nat → Int32) (i : Nat) (hn : n < 2 ^ 31) (hi : i < n) : CM l D k yX8_at cX8_at 2 (some .int)  0 0 [.ref h, .int (nI i)] [(h, .inr (12, [.ref a])), (a, aI k n f)] (is1 (some (.int (f i))) [(h, .inr (12, [.ref a])), (a, aI k n f)]) 0 0 0 := by
  refine CM.of (lv0 := [(0, .ref h), (1, .int (nI i))]) (by decide +kernel) (Nat.le_of_ble_eq_true rfl) rfl ?_
  intro p e s m below meth c C hr hlk hin had
  refine g_iload_n (pc := 0) C 1 rfl rfl dX8_at_0 ?_
  refine g_if_lt (pc := 1) C 22 (by decide) dX8_at_1 (fun c_1 => ?_) (fun c_1 => ?_)
  · exact absurd c_1 (nI_pos (by omega))
  · refine g_iload_n (pc := 4) C 1 rfl rfl dX8_at_4 ?_
    refine g_aload_n (pc := 5) C 0 rfl rfl dX8_at_5 ?_
    refine g_get (pc := 6) C (T := TX8) inX8 0 rfl rfl 0 (by decide) q_0 rfl rfl dX8_at_6 ?_
    refine g_alen (pc := 9) C 1 rfl (t0 := 0) rfl (v := (nI n)) rfl dX8_at_9 ?_
    refine g_icmp_ge (pc := 10) C 22 (by decide) dX8_at_10 (fun c_10 => ?_) (fun c_10 => ?_)
    · exact absurd c_10 (nI_ge hi (by omega))
    · refine g_aload_n (pc := 13) C 0 rfl rfl dX8_at_13 ?_
      refine g_get (pc := 14) C (T := TX8) inX8 0 rfl rfl 0 (by decide) q_0 rfl rfl dX8_at_14 ?_
      refine g_iload_n (pc := 17) C 1 rfl rfl dX8_at_17 ?_
      refine g_iald_n (pc := 18) C (j := i) 1 rfl (by omega) (by first | decide | omega) rfl dX8_at_18 ?_
      refine g_goto (pc := 19) C 23 (by decide) dX8_at_19 ?_
      exact g_iret (pc := 23) C hr hlk (by first | decide | omega) (by first | decide | omega) (by first | decide | omega) dX8_at_23 ⟨rfl, rfl⟩
set_option maxRecDepth 100000 in
set_option maxHeartbeats 400000 in
theorem c_X8_write_n {l : Launch} {D : va_G} {k : Nat → ClassId} (h : Nat) (a : Nat) (n : Nat) (f : Nat → Int32) (i : Nat) (x : Int32) (hn : n < 2 ^ 31) (hi : i < n) : CM l D k yX8_write cX8_write 3 none  0 0 [.ref h, .int (nI i), .int x] [(h, .inr (12, [.ref a])), (a, aI k n f)] (is1 none [(h, .inr (12, [.ref a])), (a, aI k n (upd f i x))]) 0 0 0 := by
  refine CM.of (lv0 := [(0, .ref h), (1, .int (nI i)), (2, .int x)]) (by decide +kernel) (Nat.le_of_ble_eq_true rfl) rfl ?_
  intro p e s m below meth c C hr hlk hin had
  refine g_iload_n (pc := 0) C 1 rfl rfl dX8_write_0 ?_
  refine g_if_lt (pc := 1) C 20 (by decide) dX8_write_1 (fun c_1 => ?_) (fun c_1 => ?_)
  · exact absurd c_1 (nI_pos (by omega))
  · refine g_iload_n (pc := 4) C 1 rfl rfl dX8_write_4 ?_
    refine g_aload_n (pc := 5) C 0 rfl rfl dX8_write_5 ?_
    refine g_get (pc := 6) C (T := TX8) inX8 0 rfl rfl 0 (by decide) q_0 rfl rfl dX8_write_6 ?_
    refine g_alen (pc := 9) C 1 rfl (t0 := 0) rfl (v := (nI n)) rfl dX8_write_9 ?_
    refine g_icmp_ge (pc := 10) C 20 (by decide) dX8_write_10 (fun c_10 => ?_) (fun c_10 => ?_)
    · exact absurd c_10 (nI_ge hi (by omega))
    · refine g_aload_n (pc := 13) C 0 rfl rfl dX8_write_13 ?_
      refine g_get (pc := 14) C (T := TX8) inX8 0 rfl rfl 0 (by decide) q_0 rfl rfl dX8_write_14 ?_
      refine g_iload_n (pc := 17) C 1 rfl rfl dX8_write_17 ?_
      refine g_iload_n (pc := 18) C 2 rfl rfl dX8_write_18 ?_
      refine g_iast_n (pc := 19) C (j := i) 1 [(h, .inr (12, [.ref a])), (a, aI k n (upd f i x))] rfl (by omega) (by first | decide | omega) rfl rfl dX8_write_19 ?_
      exact g_vret (pc := 20) C hr hlk (by first | decide | omega) (by first | decide | omega) (by first | decide | omega) dX8_write_20 ⟨rfl, rfl⟩
set_option maxRecDepth 100000 in
set_option maxHeartbeats 400000 in
theorem c_X8_add_n {l : Launch} {D : va_G} {k : Nat → ClassId} (h : Nat) (a : Nat) (n : Nat) (f : Nat → Int32) (i : Nat) (x : Int32) (hn : n < 2 ^ 31) (hi : i < n) : CM l D k yX8_add cX8_add 3 none  0 0 [.ref h, .int (nI i), .int x] [(h, .inr (12, [.ref a])), (a, aI k n f)] (is1 none [(h, .inr (12, [.ref a])), (a, aI k n (upd f i (f i + x)))]) 0 0 0 := by
  refine CM.of (lv0 := [(0, .ref h), (1, .int (nI i)), (2, .int x)]) (by decide +kernel) (Nat.le_of_ble_eq_true rfl) rfl ?_
  intro p e s m below meth c C hr hlk hin had
  refine g_iload_n (pc := 0) C 1 rfl rfl dX8_add_0 ?_
  refine g_if_lt (pc := 1) C 23 (by decide) dX8_add_1 (fun c_1 => ?_) (fun c_1 => ?_)
  · exact absurd c_1 (nI_pos (by omega))
  · refine g_iload_n (pc := 4) C 1 rfl rfl dX8_add_4 ?_
    refine g_aload_n (pc := 5) C 0 rfl rfl dX8_add_5 ?_
    refine g_get (pc := 6) C (T := TX8) inX8 0 rfl rfl 0 (by decide) q_0 rfl rfl dX8_add_6 ?_
    refine g_alen (pc := 9) C 1 rfl (t0 := 0) rfl (v := (nI n)) rfl dX8_add_9 ?_
    refine g_icmp_ge (pc := 10) C 23 (by decide) dX8_add_10 (fun c_10 => ?_) (fun c_10 => ?_)
    · exact absurd c_10 (nI_ge hi (by omega))
    · refine g_aload_n (pc := 13) C 0 rfl rfl dX8_add_13 ?_
      refine g_get (pc := 14) C (T := TX8) inX8 0 rfl rfl 0 (by decide) q_0 rfl rfl dX8_add_14 ?_
      refine g_iload_n (pc := 17) C 1 rfl rfl dX8_add_17 ?_
      refine g_dup2 (pc := 18) C rfl rfl dX8_add_18 ?_
      refine g_iald_n (pc := 19) C (j := i) 1 rfl (by omega) (by first | decide | omega) rfl dX8_add_19 ?_
      refine g_iload_n (pc := 20) C 2 rfl rfl dX8_add_20 ?_
      refine g_iadd (pc := 21) C dX8_add_21 ?_
      refine g_iast_n (pc := 22) C (j := i) 1 [(h, .inr (12, [.ref a])), (a, aI k n (upd f i ((f i) + x)))] rfl (by omega) (by first | decide | omega) rfl rfl dX8_add_22 ?_
      exact g_vret (pc := 23) C hr hlk (by first | decide | omega) (by first | decide | omega) (by first | decide | omega) dX8_add_23 ⟨rfl, rfl⟩
set_option maxRecDepth 100000 in
set_option maxHeartbeats 400000 in
theorem c_X8_init_6 {l : Launch} {D : va_G} {k : Nat → ClassId} (h : Nat)  : CM l D k yX8_init cX8_init 2 none  1 12 [.ref h, .int 6] [(h, .inr (12, [.null]))] (fun rv9 w9 => rv9 = none ∧ ∃ (a : Nat), w9 = [(h, .inr (12, [.ref a])), (a, aI k 6 (fun _ => 0))]) 1 6 1 := by
  refine CM.of (lv0 := [(0, .ref h), (1, .int 6)]) (by decide +kernel) (Nat.le_of_ble_eq_true rfl) rfl ?_
  intro p e s m below meth c C hr hlk hin had
  refine g_aload_n (pc := 0) C 0 rfl rfl dX8_init_0 ?_
  refine g_obj (pc := 1) C q_1 q_2 q_3 (Nat.le_of_ble_eq_true rfl) (Nat.le_of_ble_eq_true rfl) dX8_init_1 ?_
  refine g_aload_n (pc := 4) C 0 rfl rfl dX8_init_4 ?_
  refine g_iload_n (pc := 5) C 1 rfl rfl dX8_init_5 ?_
  refine g_if_ge (pc := 6) C 13 (by decide) dX8_init_6 (fun c_6 => ?_) (fun c_6 => ?_)
  · refine g_iload_n (pc := 13) C 1 rfl rfl dX8_init_13 ?_
    refine g_newI (pc := 14) (cells := 0) (slots := 0) (g := 0) C 6 q_4 (by decide) (by decide) (Nat.le_of_ble_eq_true rfl) (Nat.le_of_ble_eq_true rfl) (Nat.le_of_ble_eq_true rfl) dX8_init_14 (fun q1 => ?_)
    refine G.eqw (ws' := [(h, .inr (12, [.null])), (q1, aI k 6 (fun _ => 0))]) rfl ?_
    refine g_putF (pc := 16) C (T := TX8) inX8 0 rfl rfl 0 (by decide) q_0 rfl tyX8 tyX8_ok nmX8 rfl hin rfl [(h, .inr (12, [.ref q1])), (q1, aI k 6 (fun _ => 0))] (tyX8_ok 0 (by decide)) rfl rfl (Nat.le_of_ble_eq_true rfl) rfl dX8_init_16 ?_
    exact g_vret (pc := 19) C hr hlk (by first | decide | omega) (by first | decide | omega) (by first | decide | omega) dX8_init_19 ⟨rfl, q1, rfl⟩
  · exact absurd c_6 (by decide)
set_option maxRecDepth 100000 in
set_option maxHeartbeats 400000 in
theorem c_X8_init_81 {l : Launch} {D : va_G} {k : Nat → ClassId} (h : Nat)  : CM l D k yX8_init cX8_init 2 none  1 12 [.ref h, .int 81] [(h, .inr (12, [.null]))] (fun rv9 w9 => rv9 = none ∧ ∃ (a : Nat), w9 = [(h, .inr (12, [.ref a])), (a, aI k 81 (fun _ => 0))]) 1 81 1 := by
  refine CM.of (lv0 := [(0, .ref h), (1, .int 81)]) (by decide +kernel) (Nat.le_of_ble_eq_true rfl) rfl ?_
  intro p e s m below meth c C hr hlk hin had
  refine g_aload_n (pc := 0) C 0 rfl rfl dX8_init_0 ?_
  refine g_obj (pc := 1) C q_1 q_2 q_3 (Nat.le_of_ble_eq_true rfl) (Nat.le_of_ble_eq_true rfl) dX8_init_1 ?_
  refine g_aload_n (pc := 4) C 0 rfl rfl dX8_init_4 ?_
  refine g_iload_n (pc := 5) C 1 rfl rfl dX8_init_5 ?_
  refine g_if_ge (pc := 6) C 13 (by decide) dX8_init_6 (fun c_6 => ?_) (fun c_6 => ?_)
  · refine g_iload_n (pc := 13) C 1 rfl rfl dX8_init_13 ?_
    refine g_newI (pc := 14) (cells := 0) (slots := 0) (g := 0) C 81 q_4 (by decide) (by decide) (Nat.le_of_ble_eq_true rfl) (Nat.le_of_ble_eq_true rfl) (Nat.le_of_ble_eq_true rfl) dX8_init_14 (fun q1 => ?_)
    refine G.eqw (ws' := [(h, .inr (12, [.null])), (q1, aI k 81 (fun _ => 0))]) rfl ?_
    refine g_putF (pc := 16) C (T := TX8) inX8 0 rfl rfl 0 (by decide) q_0 rfl tyX8 tyX8_ok nmX8 rfl hin rfl [(h, .inr (12, [.ref q1])), (q1, aI k 81 (fun _ => 0))] (tyX8_ok 0 (by decide)) rfl rfl (Nat.le_of_ble_eq_true rfl) rfl dX8_init_16 ?_
    exact g_vret (pc := 19) C hr hlk (by first | decide | omega) (by first | decide | omega) (by first | decide | omega) dX8_init_19 ⟨rfl, q1, rfl⟩
  · exact absurd c_6 (by decide)
set_option maxRecDepth 100000 in
set_option maxHeartbeats 400000 in
theorem c_X8_init_252 {l : Launch} {D : va_G} {k : Nat → ClassId} (h : Nat)  : CM l D k yX8_init cX8_init 2 none  1 12 [.ref h, .int 252] [(h, .inr (12, [.null]))] (fun rv9 w9 => rv9 = none ∧ ∃ (a : Nat), w9 = [(h, .inr (12, [.ref a])), (a, aI k 252 (fun _ => 0))]) 1 252 1 := by
  refine CM.of (lv0 := [(0, .ref h), (1, .int 252)]) (by decide +kernel) (Nat.le_of_ble_eq_true rfl) rfl ?_
  intro p e s m below meth c C hr hlk hin had
  refine g_aload_n (pc := 0) C 0 rfl rfl dX8_init_0 ?_
  refine g_obj (pc := 1) C q_1 q_2 q_3 (Nat.le_of_ble_eq_true rfl) (Nat.le_of_ble_eq_true rfl) dX8_init_1 ?_
  refine g_aload_n (pc := 4) C 0 rfl rfl dX8_init_4 ?_
  refine g_iload_n (pc := 5) C 1 rfl rfl dX8_init_5 ?_
  refine g_if_ge (pc := 6) C 13 (by decide) dX8_init_6 (fun c_6 => ?_) (fun c_6 => ?_)
  · refine g_iload_n (pc := 13) C 1 rfl rfl dX8_init_13 ?_
    refine g_newI (pc := 14) (cells := 0) (slots := 0) (g := 0) C 252 q_4 (by decide) (by decide) (Nat.le_of_ble_eq_true rfl) (Nat.le_of_ble_eq_true rfl) (Nat.le_of_ble_eq_true rfl) dX8_init_14 (fun q1 => ?_)
    refine G.eqw (ws' := [(h, .inr (12, [.null])), (q1, aI k 252 (fun _ => 0))]) rfl ?_
    refine g_putF (pc := 16) C (T := TX8) inX8 0 rfl rfl 0 (by decide) q_0 rfl tyX8 tyX8_ok nmX8 rfl hin rfl [(h, .inr (12, [.ref q1])), (q1, aI k 252 (fun _ => 0))] (tyX8_ok 0 (by decide)) rfl rfl (Nat.le_of_ble_eq_true rfl) rfl dX8_init_16 ?_
    exact g_vret (pc := 19) C hr hlk (by first | decide | omega) (by first | decide | omega) (by first | decide | omega) dX8_init_19 ⟨rfl, q1, rfl⟩
  · exact absurd c_6 (by decide)
set_option maxRecDepth 100000 in
set_option maxHeartbeats 400000 in
theorem c_X8_fill {l : Launch} {D : va_G} {k : Nat → ClassId} (h : Nat) (a : Nat) (n : Nat) (f : Nat → Int32) (x : Int32) (hn : n < 2 ^ 31) : CM l D k yX8_fill cX8_fill 3 none  0 0 [.ref h, .int x] [(h, .inr (12, [.ref a])), (a, aI k n f)] (is1 none [(h, .inr (12, [.ref a])), (a, aI k n (fun _ => x))]) 0 0 0 := by
  refine CM.of (lv0 := [(0, .ref h), (1, .int x)]) (by decide +kernel) (Nat.le_of_ble_eq_true rfl) rfl ?_
  intro p e s m below meth c C hr hlk hin had
  refine g_iconst (pc := 0) (v := 0) C (by decide) dX8_fill_0 ?_
  refine g_istore_n (pc := 1) C [(2, .int 0), (0, .ref h), (1, .int x)] rfl dX8_fill_1 (by decide) rfl ?_
  have key_2 : ∀ (fuel : Nat) (i : Nat), i ≤ n → n - i < fuel → G p l e { frames := 0, cells := 0, slots := 0, locals := 0 } s m ([.ref h, .int x] : List Value).toArray below meth c D 3 (va_A [(h, .inr (12, [.ref a])), (a, aI k n f)] s.heap.size) (QM below D ([.ref h, .int x] : List Value).toArray s [(h, .inr (12, [.ref a])), (a, aI k n f)] (is1 none [(h, .inr (12, [.ref a])), (a, aI k n (fun _ => x))]) 0 0 0) [(h, .inr (12, [.ref a])), (a, aI k n (fun j => if j < i then x else f j))] [(0, .ref h), (1, .int x), (2, .int (nI i))] 0 0 0 2 [] := by
    intro fuel
    induction fuel with
    | zero => intro i hi hm; exact absurd hm (Nat.not_lt_zero _)
    | succ fuel ih =>
      intro i hi hm
      have ih_2 := ih
      refine g_iload_n (pc := 2) C 2 rfl rfl dX8_fill_2 ?_
      refine g_aload_n (pc := 3) C 0 rfl rfl dX8_fill_3 ?_
      refine g_get (pc := 4) C (T := TX8) inX8 0 rfl rfl 0 (by decide) q_0 rfl rfl dX8_fill_4 ?_
      refine g_alen (pc := 7) C 1 rfl (t0 := 0) rfl (v := (nI n)) rfl dX8_fill_7 ?_
      refine g_icmp_ge (pc := 8) C 24 (by decide) dX8_fill_8 (fun c_8 => ?_) (fun c_8 => ?_)
      · refine G.fn (fun _ => x) 1 [(h, .inr (12, [.ref a])), (a, aI k n (fun _ => x))] rfl (fun j hj => by have h2 : i = n := by { rcases Nat.lt_or_ge i n with q | q; exact absurd c_8 (nI_ge q hn); omega }; subst h2; simp [hj]) rfl ?_
        exact g_vret (pc := 24) C hr hlk (by first | decide | omega) (by first | decide | omega) (by first | decide | omega) dX8_fill_24 ⟨rfl, rfl⟩
      · have hlt : i < n := by rcases Nat.lt_or_ge i n with q | q; exact q; exact absurd (nI_le q (by omega)) c_8
        refine g_aload_n (pc := 11) C 0 rfl rfl dX8_fill_11 ?_
        refine g_get (pc := 12) C (T := TX8) inX8 0 rfl rfl 0 (by decide) q_0 rfl rfl dX8_fill_12 ?_
        refine g_iload_n (pc := 15) C 2 rfl rfl dX8_fill_15 ?_
        refine g_iload_n (pc := 16) C 1 rfl rfl dX8_fill_16 ?_
        refine g_iast_n (pc := 17) C (j := i) 1 [(h, .inr (12, [.ref a])), (a, aI k n (upd (fun j => if j < i then x else f j) i x))] rfl (by omega) (by first | decide | omega) rfl rfl dX8_fill_17 ?_
        refine g_iinc (pc := 18) (n := 1) (v := (nI (i + 1))) C 2 [(2, .int (nI (i + 1))), (0, .ref h), (1, .int x)] rfl (nI_1 i) dX8_fill_18 (by decide) rfl ?_
        refine g_goto (pc := 21) C 2 (by decide) dX8_fill_21 ?_
        refine G.loc [1, 2, 0] (lv' := [(0, .ref h), (1, .int x), (2, .int (nI (i + 1)))]) rfl ?_
        refine G.fn (fun j => if j < (i + 1) then x else f j) 1 [(h, .inr (12, [.ref a])), (a, aI k n (fun j => if j < (i + 1) then x else f j))] rfl (fun j hj => by by_cases h1 : j = i <;> simp [upd, h1] <;> (by_cases h2 : j < i <;> simp [h2] <;> omega)) rfl ?_
        exact ih_2 (i + 1) (by omega) (by omega)
  refine G.loc [1, 2, 0] (lv' := [(0, .ref h), (1, .int x), (2, .int 0)]) rfl ?_
  refine G.fn (fun j => if j < 0 then x else f j) 1 [(h, .inr (12, [.ref a])), (a, aI k n (fun j => if j < 0 then x else f j))] rfl (fun j hj => by simp) rfl ?_
  refine G.eql (lv' := [(0, .ref h), (1, .int x), (2, .int (nI 0))]) (congrArg (β := List (Nat × Value)) (fun z9 => [(0, .ref h), (1, .int x), (2, .int z9)]) (show (0 : Int32) = (nI 0) from by exact nI_0.symm)) ?_
  exact key_2 (n - 0 + 1) 0 (by omega) (Nat.lt_succ_self _)
set_option maxRecDepth 100000 in
set_option maxHeartbeats 400000 in
theorem c_X8_copy {l : Launch} {D : va_G} {k : Nat → ClassId} (h : Nat) (a : Nat) (n : Nat) (f : Nat → Int32) (h2 : Nat) (a2 : Nat) (f2 : Nat → Int32) (hn : n < 2 ^ 31) : CM l D k yX8_copy cX8_copy 3 none  1 21 [.ref h, .ref h2] [(h, .inr (12, [.ref a])), (a, aI k n f), (h2, .inr (12, [.ref a2])), (a2, aI k n f2)] (is1 none [(h, .inr (12, [.ref a])), (a, aI k n f2), (h2, .inr (12, [.ref a2])), (a2, aI k n f2)]) 0 0 0 := by
  refine CM.of (lv0 := [(0, .ref h), (1, .ref h2)]) (by decide +kernel) (Nat.le_of_ble_eq_true rfl) rfl ?_
  intro p e s m below meth c C hr hlk hin had
  refine g_iconst (pc := 0) (v := 0) C (by decide) dX8_copy_0 ?_
  refine g_istore_n (pc := 1) C [(2, .int 0), (0, .ref h), (1, .ref h2)] rfl dX8_copy_1 (by decide) rfl ?_
  have key_2 : ∀ (fuel : Nat) (i : Nat), i ≤ n → n - i < fuel → G p l e { frames := 1, cells := 0, slots := 0, locals := 21 } s m ([.ref h, .ref h2] : List Value).toArray below meth c D 3 (va_A [(h, .inr (12, [.ref a])), (a, aI k n f), (h2, .inr (12, [.ref a2])), (a2, aI k n f2)] s.heap.size) (QM below D ([.ref h, .ref h2] : List Value).toArray s [(h, .inr (12, [.ref a])), (a, aI k n f), (h2, .inr (12, [.ref a2])), (a2, aI k n f2)] (is1 none [(h, .inr (12, [.ref a])), (a, aI k n f2), (h2, .inr (12, [.ref a2])), (a2, aI k n f2)]) 0 0 0) [(h, .inr (12, [.ref a])), (a, aI k n (fun j => if j < i then f2 j else f j)), (h2, .inr (12, [.ref a2])), (a2, aI k n f2)] [(0, .ref h), (1, .ref h2), (2, .int (nI i))] 0 0 0 2 [] := by
    intro fuel
    induction fuel with
    | zero => intro i hi hm; exact absurd hm (Nat.not_lt_zero _)
    | succ fuel ih =>
      intro i hi hm
      have ih_2 := ih
      refine g_iload_n (pc := 2) C 2 rfl rfl dX8_copy_2 ?_
      refine g_aload_n (pc := 3) C 0 rfl rfl dX8_copy_3 ?_
      refine g_get (pc := 4) C (T := TX8) inX8 0 rfl rfl 0 (by decide) q_0 rfl rfl dX8_copy_4 ?_
      refine g_alen (pc := 7) C 1 rfl (t0 := 0) rfl (v := (nI n)) rfl dX8_copy_7 ?_
      refine g_icmp_ge (pc := 8) C 28 (by decide) dX8_copy_8 (fun c_8 => ?_) (fun c_8 => ?_)
      · refine G.fn f2 1 [(h, .inr (12, [.ref a])), (a, aI k n f2), (h2, .inr (12, [.ref a2])), (a2, aI k n f2)] rfl (fun j hj => by have h3 : i = n := by { rcases Nat.lt_or_ge i n with q | q; exact absurd c_8 (nI_ge q hn); omega }; subst h3; simp [hj]) rfl ?_
        exact g_vret (pc := 28) C hr hlk (by first | decide | omega) (by first | decide | omega) (by first | decide | omega) dX8_copy_28 ⟨rfl, rfl⟩
      · have hlt : i < n := by rcases Nat.lt_or_ge i n with q | q; exact q; exact absurd (nI_le q (by omega)) c_8
        refine g_aload_n (pc := 11) C 0 rfl rfl dX8_copy_11 ?_
        refine g_get (pc := 12) C (T := TX8) inX8 0 rfl rfl 0 (by decide) q_0 rfl rfl dX8_copy_12 ?_
        refine g_iload_n (pc := 15) C 2 rfl rfl dX8_copy_15 ?_
        refine g_aload_n (pc := 16) C 1 rfl rfl dX8_copy_16 ?_
        refine g_iload_n (pc := 17) C 2 rfl rfl dX8_copy_17 ?_
        refine g_callV (pc := 18) (cells := 0) (slots := 0) (g := 0) (As := [.int (nI i)]) (st := [.int (nI i), .ref a]) (T := TX8) (q0 := 2) C (nA := 1) rfl (c_X8_at h2 a2 n f2 (nI i) (by first | assumption | decide | omega)) q_8 q_9 q_7 q_6 q_5 (by decide +kernel) rfl rfl dX8_copy_18 ⟨Nat.le_of_ble_eq_true rfl, Nat.le_of_ble_eq_true rfl⟩ [2, 3] [0, 1] rfl (wr := [(h, .inr (12, [.ref a])), (a, aI k n (fun j => if j < i then f2 j else f j))]) rfl (by decide) (by decide) (by decide) (Nat.le_of_ble_eq_true rfl) ⟨Nat.le_of_ble_eq_true rfl, Nat.le_of_ble_eq_true rfl⟩ (fun rv w1 h1 => ?_)
        obtain ⟨rfl, rfl⟩ := h1
        refine G.aft [0, 1, 2, 3] (ws' := [(h, .inr (12, [.ref a])), (a, aI k n (fun j => if j < i then f2 j else f j)), (h2, .inr (12, [.ref a2])), (a2, aI k n f2)]) (st' := [.int (rAt n f2 (nI i)), .int (nI i), .ref a]) (cells' := 0) (slots' := 0) (g' := 0) (by decide) rfl rfl rfl rfl rfl ?_
        refine g_iast_n (pc := 21) C (j := i) 1 [(h, .inr (12, [.ref a])), (a, aI k n (upd (fun j => if j < i then f2 j else f j) i (rAt n f2 (nI i)))), (h2, .inr (12, [.ref a2])), (a2, aI k n f2)] rfl (by omega) (by first | decide | omega) rfl rfl dX8_copy_21 ?_
        refine g_iinc (pc := 22) (n := 1) (v := (nI (i + 1))) C 2 [(2, .int (nI (i + 1))), (0, .ref h), (1, .ref h2)] rfl (nI_1 i) dX8_copy_22 (by decide) rfl ?_
        refine g_goto (pc := 25) C 2 (by decide) dX8_copy_25 ?_
        refine G.loc [1, 2, 0] (lv' := [(0, .ref h), (1, .ref h2), (2, .int (nI (i + 1)))]) rfl ?_
        refine G.fn (fun j => if j < (i + 1) then f2 j else f j) 1 [(h, .inr (12, [.ref a])), (a, aI k n (fun j => if j < (i + 1) then f2 j else f j)), (h2, .inr (12, [.ref a2])), (a2, aI k n f2)] rfl (fun j hj => by rw [rAt_n hn f2 hlt]; by_cases h1 : j = i <;> simp [upd, h1] <;> (by_cases h2 : j < i <;> simp [h2] <;> omega)) rfl ?_
        exact ih_2 (i + 1) (by omega) (by omega)
  refine G.loc [1, 2, 0] (lv' := [(0, .ref h), (1, .ref h2), (2, .int 0)]) rfl ?_
  refine G.fn (fun j => if j < 0 then f2 j else f j) 1 [(h, .inr (12, [.ref a])), (a, aI k n (fun j => if j < 0 then f2 j else f j)), (h2, .inr (12, [.ref a2])), (a2, aI k n f2)] rfl (fun j hj => by simp) rfl ?_
  refine G.eql (lv' := [(0, .ref h), (1, .ref h2), (2, .int (nI 0))]) (congrArg (β := List (Nat × Value)) (fun z9 => [(0, .ref h), (1, .ref h2), (2, .int z9)]) (show (0 : Int32) = (nI 0) from by exact nI_0.symm)) ?_
  exact key_2 (n - 0 + 1) 0 (by omega) (Nat.lt_succ_self _)
def rSum (f : Nat → Int32) : Nat → Int32
  | 0 => 0
  | n + 1 => rSum f n + f n
set_option maxRecDepth 100000 in
set_option maxHeartbeats 400000 in
theorem c_X8_sum {l : Launch} {D : va_G} {k : Nat → ClassId} (h : Nat) (a : Nat) (n : Nat) (f : Nat → Int32) (hn : n < 2 ^ 31) : CM l D k yX8_sum cX8_sum 3 (some .int)  0 0 [.ref h] [(h, .inr (12, [.ref a])), (a, aI k n f)] (is1 (some (.int (rSum f n))) [(h, .inr (12, [.ref a])), (a, aI k n f)]) 0 0 0 := by
  refine CM.of (lv0 := [(0, .ref h)]) (by decide +kernel) (Nat.le_of_ble_eq_true rfl) rfl ?_
  intro p e s m below meth c C hr hlk hin had
  refine g_iconst (pc := 0) (v := 0) C (by decide) dX8_sum_0 ?_
  refine g_istore_n (pc := 1) C [(1, .int 0), (0, .ref h)] rfl dX8_sum_1 (by decide) rfl ?_
  refine g_iconst (pc := 2) (v := 0) C (by decide) dX8_sum_2 ?_
  refine g_istore_n (pc := 3) C [(2, .int 0), (1, .int 0), (0, .ref h)] rfl dX8_sum_3 (by decide) rfl ?_
  have key_4 : ∀ (fuel : Nat) (i : Nat), i ≤ n → n - i < fuel → G p l e { frames := 0, cells := 0, slots := 0, locals := 0 } s m ([.ref h] : List Value).toArray below meth c D 3 (va_A [(h, .inr (12, [.ref a])), (a, aI k n f)] s.heap.size) (QM below D ([.ref h] : List Value).toArray s [(h, .inr (12, [.ref a])), (a, aI k n f)] (is1 (some (.int (rSum f n))) [(h, .inr (12, [.ref a])), (a, aI k n f)]) 0 0 0) [(h, .inr (12, [.ref a])), (a, aI k n f)] [(0, .ref h), (1, .int (rSum f i)), (2, .int (nI i))] 0 0 0 4 [] := by
    intro fuel
    induction fuel with
    | zero => intro i hi hm; exact absurd hm (Nat.not_lt_zero _)
    | succ fuel ih =>
      intro i hi hm
      have ih_4 := ih
      refine g_iload_n (pc := 4) C 2 rfl rfl dX8_sum_4 ?_
      refine g_aload_n (pc := 5) C 0 rfl rfl dX8_sum_5 ?_
      refine g_get (pc := 6) C (T := TX8) inX8 0 rfl rfl 0 (by decide) q_0 rfl rfl dX8_sum_6 ?_
      refine g_alen (pc := 9) C 1 rfl (t0 := 0) rfl (v := (nI n)) rfl dX8_sum_9 ?_
      refine g_icmp_ge (pc := 10) C 28 (by decide) dX8_sum_10 (fun c_10 => ?_) (fun c_10 => ?_)
      · refine g_iload_n (pc := 28) C 1 rfl rfl dX8_sum_28 ?_
        refine G.eqs (st' := [.int (rSum f n)]) (congrArg (fun z9 => [Value.int z9]) (show ((rSum f i) : Int32) = (rSum f n) from by have h3 : i = n := by { rcases Nat.lt_or_ge i n with q | q; exact absurd c_10 (nI_ge q hn); omega }; rw [h3])) ?_
        exact g_iret (pc := 29) C hr hlk (by first | decide | omega) (by first | decide | omega) (by first | decide | omega) dX8_sum_29 ⟨rfl, rfl⟩
      · have hlt : i < n := by rcases Nat.lt_or_ge i n with q | q; exact q; exact absurd (nI_le q (by omega)) c_10
        refine g_iload_n (pc := 13) C 1 rfl rfl dX8_sum_13 ?_
        refine g_aload_n (pc := 14) C 0 rfl rfl dX8_sum_14 ?_
        refine g_get (pc := 15) C (T := TX8) inX8 0 rfl rfl 0 (by decide) q_0 rfl rfl dX8_sum_15 ?_
        refine g_iload_n (pc := 18) C 2 rfl rfl dX8_sum_18 ?_
        refine g_iald_n (pc := 19) C (j := i) 1 rfl (by omega) (by first | decide | omega) rfl dX8_sum_19 ?_
        refine g_iadd (pc := 20) C dX8_sum_20 ?_
        refine g_istore_n (pc := 21) C [(1, .int ((rSum f i) + (f i))), (0, .ref h), (2, .int (nI i))] rfl dX8_sum_21 (by decide) rfl ?_
        refine g_iinc (pc := 22) (n := 1) (v := (nI (i + 1))) C 2 [(2, .int (nI (i + 1))), (1, .int ((rSum f i) + (f i))), (0, .ref h)] rfl (nI_1 i) dX8_sum_22 (by decide) rfl ?_
        refine g_goto (pc := 25) C 4 (by decide) dX8_sum_25 ?_
        refine G.loc [2, 1, 0] (lv' := [(0, .ref h), (1, .int ((rSum f i) + (f i))), (2, .int (nI (i + 1)))]) rfl ?_
        refine G.eql (lv' := [(0, .ref h), (1, .int (rSum f (i + 1))), (2, .int (nI (i + 1)))]) (congrArg (β := List (Nat × Value)) (fun z9 => [(0, .ref h), (1, .int z9), (2, .int (nI (i + 1)))]) (show (((rSum f i) + (f i)) : Int32) = (rSum f (i + 1)) from by rfl)) ?_
        exact ih_4 (i + 1) (by omega) (by omega)
  refine G.loc [2, 1, 0] (lv' := [(0, .ref h), (1, .int 0), (2, .int 0)]) rfl ?_
  refine G.eql (lv' := [(0, .ref h), (1, .int (rSum f 0)), (2, .int (nI 0))]) ((congrArg (β := List (Nat × Value)) (fun z9 => [(0, .ref h), (1, .int z9), (2, .int 0)]) (show (0 : Int32) = (rSum f 0) from by first | rfl | exact nI_0.symm)).trans (congrArg (β := List (Nat × Value)) (fun z9 => [(0, .ref h), (1, .int (rSum f 0)), (2, .int z9)]) (show (0 : Int32) = (nI 0) from by first | rfl | exact nI_0.symm))) ?_
  exact key_4 (n - 0 + 1) 0 (by omega) (Nat.lt_succ_self _)
def rLike (f f2 : Nat → Int32) (n : Nat) : Bool := (List.range n).all fun j => f j == f2 j
theorem rLike_iff {f f2 : Nat → Int32} {n : Nat} : rLike f f2 n = true ↔ ∀ j, j < n → f j = f2 j := by simp [rLike]
set_option maxRecDepth 100000 in
set_option maxHeartbeats 400000 in
theorem c_X8_isLike {l : Launch} {D : va_G} {k : Nat → ClassId} (h : Nat) (a : Nat) (n : Nat) (f : Nat → Int32) (h2 : Nat) (a2 : Nat) (f2 : Nat → Int32) (hn : n < 2 ^ 31) : CM l D k yX8_isLike cX8_isLike 3 (some .boolean)  1 21 [.ref h, .ref h2] [(h, .inr (12, [.ref a])), (a, aI k n f), (h2, .inr (12, [.ref a2])), (a2, aI k n f2)] (is1 (some (.int (bI (rLike f f2 n)))) [(h, .inr (12, [.ref a])), (a, aI k n f), (h2, .inr (12, [.ref a2])), (a2, aI k n f2)]) 0 0 0 := by
  refine CM.of (lv0 := [(0, .ref h), (1, .ref h2)]) (by decide +kernel) (Nat.le_of_ble_eq_true rfl) rfl ?_
  intro p e s m below meth c C hr hlk hin had
  refine g_iconst (pc := 0) (v := 0) C (by decide) dX8_isLike_0 ?_
  refine g_istore_n (pc := 1) C [(2, .int 0), (0, .ref h), (1, .ref h2)] rfl dX8_isLike_1 (by decide) rfl ?_
  have key_2 : ∀ (fuel : Nat) (i : Nat), i ≤ n → (∀ j, j < i → f j = f2 j) → n - i < fuel → G p l e { frames := 1, cells := 0, slots := 0, locals := 21 } s m ([.ref h, .ref h2] : List Value).toArray below meth c D 3 (va_A [(h, .inr (12, [.ref a])), (a, aI k n f), (h2, .inr (12, [.ref a2])), (a2, aI k n f2)] s.heap.size) (QM below D ([.ref h, .ref h2] : List Value).toArray s [(h, .inr (12, [.ref a])), (a, aI k n f), (h2, .inr (12, [.ref a2])), (a2, aI k n f2)] (is1 (some (.int (bI (rLike f f2 n)))) [(h, .inr (12, [.ref a])), (a, aI k n f), (h2, .inr (12, [.ref a2])), (a2, aI k n f2)]) 0 0 0) [(h, .inr (12, [.ref a])), (a, aI k n f), (h2, .inr (12, [.ref a2])), (a2, aI k n f2)] [(0, .ref h), (1, .ref h2), (2, .int (nI i))] 0 0 0 2 [] := by
    intro fuel
    induction fuel with
    | zero => intro i hi hq hm; exact absurd hm (Nat.not_lt_zero _)
    | succ fuel ih =>
      intro i hi hq hm
      have ih_2 := ih
      refine g_iload_n (pc := 2) C 2 rfl rfl dX8_isLike_2 ?_
      refine g_aload_n (pc := 3) C 0 rfl rfl dX8_isLike_3 ?_
      refine g_get (pc := 4) C (T := TX8) inX8 0 rfl rfl 0 (by decide) q_0 rfl rfl dX8_isLike_4 ?_
      refine g_alen (pc := 7) C 1 rfl (t0 := 0) rfl (v := (nI n)) rfl dX8_isLike_7 ?_
      refine g_icmp_ge (pc := 8) C 33 (by decide) dX8_isLike_8 (fun c_8 => ?_) (fun c_8 => ?_)
      · refine g_iconst (pc := 33) (v := 1) C (by decide) dX8_isLike_33 ?_
        refine G.eqs (st' := [.int (bI (rLike f f2 n))]) (congrArg (fun z9 => [Value.int z9]) (show (1 : Int32) = (bI (rLike f f2 n)) from by have h3 : i = n := by { rcases Nat.lt_or_ge i n with q | q; exact absurd c_8 (nI_ge q hn); omega }; subst h3; rw [rLike_iff.mpr hq]; rfl)) ?_
        exact g_zret (pc := 34) C hr (by first | rfl | exact bI_nar _) hlk (by first | decide | omega) (by first | decide | omega) (by first | decide | omega) dX8_isLike_34 ⟨rfl, rfl⟩
      · have hlt : i < n := by rcases Nat.lt_or_ge i n with q | q; exact q; exact absurd (nI_le q (by omega)) c_8
        refine g_aload_n (pc := 11) C 0 rfl rfl dX8_isLike_11 ?_
        refine g_get (pc := 12) C (T := TX8) inX8 0 rfl rfl 0 (by decide) q_0 rfl rfl dX8_isLike_12 ?_
        refine g_iload_n (pc := 15) C 2 rfl rfl dX8_isLike_15 ?_
        refine g_iald_n (pc := 16) C (j := i) 1 rfl (by omega) (by first | decide | omega) rfl dX8_isLike_16 ?_
        refine g_aload_n (pc := 17) C 1 rfl rfl dX8_isLike_17 ?_
        refine g_iload_n (pc := 18) C 2 rfl rfl dX8_isLike_18 ?_
        refine g_callV (pc := 19) (cells := 0) (slots := 0) (g := 0) (As := [.int (nI i)]) (st := [.int (f i)]) (T := TX8) (q0 := 2) C (nA := 1) rfl (c_X8_at h2 a2 n f2 (nI i) (by first | assumption | decide | omega)) q_8 q_9 q_7 q_6 q_5 (by decide +kernel) rfl rfl dX8_isLike_19 ⟨Nat.le_of_ble_eq_true rfl, Nat.le_of_ble_eq_true rfl⟩ [2, 3] [0, 1] rfl (wr := [(h, .inr (12, [.ref a])), (a, aI k n f)]) rfl (by decide) (by decide) (by decide) (Nat.le_of_ble_eq_true rfl) ⟨Nat.le_of_ble_eq_true rfl, Nat.le_of_ble_eq_true rfl⟩ (fun rv w1 h1 => ?_)
        obtain ⟨rfl, rfl⟩ := h1
        refine G.aft [0, 1, 2, 3] (ws' := [(h, .inr (12, [.ref a])), (a, aI k n f), (h2, .inr (12, [.ref a2])), (a2, aI k n f2)]) (st' := [.int (rAt n f2 (nI i)), .int (f i)]) (cells' := 0) (slots' := 0) (g' := 0) (by decide) rfl rfl rfl rfl rfl ?_
        refine G.eqs (st' := [.int (f2 i), .int (f i)]) (congrArg (β := List Value) (fun z9 => [.int z9, .int (f i)]) (show ((rAt n f2 (nI i)) : Int32) = (f2 i) from rAt_n hn f2 hlt)) ?_
        refine g_icmp_eq (pc := 22) C 27 (by decide) dX8_isLike_22 (fun c_22 => ?_) (fun c_22 => ?_)
        · refine g_iinc (pc := 27) (n := 1) (v := (nI (i + 1))) C 2 [(2, .int (nI (i + 1))), (0, .ref h), (1, .ref h2)] rfl (nI_1 i) dX8_isLike_27 (by decide) rfl ?_
          refine g_goto (pc := 30) C 2 (by decide) dX8_isLike_30 ?_
          refine G.loc [1, 2, 0] (lv' := [(0, .ref h), (1, .ref h2), (2, .int (nI (i + 1)))]) rfl ?_
          exact ih_2 (i + 1) (by omega) (fun j hj => by rcases Nat.lt_or_ge j i with q | q; exact hq j q; have h1 : j = i := (by omega); subst h1; exact c_22) (by omega)
        · refine g_iconst (pc := 25) (v := 0) C (by decide) dX8_isLike_25 ?_
          refine G.eqs (st' := [.int (bI (rLike f f2 n))]) (congrArg (fun z9 => [Value.int z9]) (show (0 : Int32) = (bI (rLike f f2 n)) from by rw [Bool.eq_false_iff.mpr (fun h => c_22 (rLike_iff.mp h i hlt))]; rfl)) ?_
          exact g_zret (pc := 26) C hr (by first | rfl | exact bI_nar _) hlk (by first | decide | omega) (by first | decide | omega) (by first | decide | omega) dX8_isLike_26 ⟨rfl, rfl⟩
  refine G.loc [1, 2, 0] (lv' := [(0, .ref h), (1, .ref h2), (2, .int 0)]) rfl ?_
  refine G.eql (lv' := [(0, .ref h), (1, .ref h2), (2, .int (nI 0))]) (congrArg (β := List (Nat × Value)) (fun z9 => [(0, .ref h), (1, .ref h2), (2, .int z9)]) (show (0 : Int32) = (nI 0) from by exact nI_0.symm)) ?_
  exact key_2 (n - 0 + 1) 0 (by omega) (fun j hj => absurd hj (Nat.not_lt_zero j)) (Nat.lt_succ_self _)
end
section
theorem dX3_init_0 : decode cX3_init 0 = .ok (.aload_n 0, 1) := by decide +kernel
theorem dX3_init_1 : decode cX3_init 1 = .ok (.invokespecial 3, 3) := by decide +kernel
theorem q_10 : (Jvm.Cond.methodLink "Chipfold$Graph" (3 : Nat) ({ cls := "java/lang/Object", name := "<init>", desc := "()V" } : Jvm.MethodName)) ∈ WG := wg_1 (List.mem_of_getElem? (i := 50) (by decide +kernel)) (by decide +kernel)
theorem dX3_init_4 : decode cX3_init 4 = .ok (.aload_n 0, 1) := by decide +kernel
theorem dX3_init_5 : decode cX3_init 5 = .ok (.bipush 36, 2) := by decide +kernel
theorem dX3_init_7 : decode cX3_init 7 = .ok (.newarray .int, 2) := by decide +kernel
theorem dX3_init_9 : decode cX3_init 9 = .ok (.putfield 9, 3) := by decide +kernel
theorem q_11 : (Jvm.Cond.fieldLink "Chipfold$Graph" (9 : Nat) "Chipfold$Graph" "joined" "[I") ∈ WG := wg_1 (List.mem_of_getElem? (i := 51) (by decide +kernel)) (by decide +kernel)
theorem inX3 : ∀ w ∈ u_ws RX3 TX3 4, w ∈ WG := by decide +kernel
theorem dX3_init_12 : decode cX3_init 12 = .ok (.aload_n 0, 1) := by decide +kernel
theorem dX3_init_13 : decode cX3_init 13 = .ok (.bipush 6, 2) := by decide +kernel
theorem dX3_init_15 : decode cX3_init 15 = .ok (.newarray .int, 2) := by decide +kernel
theorem dX3_init_17 : decode cX3_init 17 = .ok (.putfield 15, 3) := by decide +kernel
theorem q_12 : (Jvm.Cond.fieldLink "Chipfold$Graph" (15 : Nat) "Chipfold$Graph" "degrees" "[I") ∈ WG := wg_1 (List.mem_of_getElem? (i := 52) (by decide +kernel)) (by decide +kernel)
theorem dX3_init_20 : decode cX3_init 20 = .ok (.aload_n 0, 1) := by decide +kernel
theorem dX3_init_21 : decode cX3_init 21 = .ok (.iconst 0, 1) := by decide +kernel
theorem dX3_init_22 : decode cX3_init 22 = .ok (.putfield 18, 3) := by decide +kernel
theorem q_13 : (Jvm.Cond.fieldLink "Chipfold$Graph" (18 : Nat) "Chipfold$Graph" "vertices" "I") ∈ WG := wg_1 (List.mem_of_getElem? (i := 53) (by decide +kernel)) (by decide +kernel)
theorem dX3_init_25 : decode cX3_init 25 = .ok (.aload_n 0, 1) := by decide +kernel
theorem dX3_init_26 : decode cX3_init 26 = .ok (.iconst 0, 1) := by decide +kernel
theorem dX3_init_27 : decode cX3_init 27 = .ok (.putfield 22, 3) := by decide +kernel
theorem q_14 : (Jvm.Cond.fieldLink "Chipfold$Graph" (22 : Nat) "Chipfold$Graph" "sinkNow" "I") ∈ WG := wg_1 (List.mem_of_getElem? (i := 54) (by decide +kernel)) (by decide +kernel)
theorem dX3_init_30 : decode cX3_init 30 = .ok (.return_, 1) := by decide +kernel
theorem dX3_size_0 : decode cX3_size 0 = .ok (.aload_n 0, 1) := by decide +kernel
theorem dX3_size_1 : decode cX3_size 1 = .ok (.getfield 18, 3) := by decide +kernel
theorem dX3_size_4 : decode cX3_size 4 = .ok (.ireturn, 1) := by decide +kernel
theorem dX3_sinkVertex_0 : decode cX3_sinkVertex 0 = .ok (.aload_n 0, 1) := by decide +kernel
theorem dX3_sinkVertex_1 : decode cX3_sinkVertex 1 = .ok (.getfield 22, 3) := by decide +kernel
theorem dX3_sinkVertex_4 : decode cX3_sinkVertex 4 = .ok (.ireturn, 1) := by decide +kernel
theorem dX3_has_0 : decode cX3_has 0 = .ok (.iload_n 1, 1) := by decide +kernel
theorem dX3_has_1 : decode cX3_has 1 = .ok (.ifCond .lt 15, 3) := by decide +kernel
theorem dX3_has_16 : decode cX3_has 16 = .ok (.iconst 0, 1) := by decide +kernel
theorem dX3_has_17 : decode cX3_has 17 = .ok (.ireturn, 1) := by decide +kernel
theorem dX3_has_4 : decode cX3_has 4 = .ok (.iload_n 1, 1) := by decide +kernel
theorem dX3_has_5 : decode cX3_has 5 = .ok (.aload_n 0, 1) := by decide +kernel
theorem dX3_has_6 : decode cX3_has 6 = .ok (.getfield 18, 3) := by decide +kernel
theorem dX3_has_9 : decode cX3_has 9 = .ok (.if_icmp .ge 7, 3) := by decide +kernel
theorem dX3_has_12 : decode cX3_has 12 = .ok (.iconst 1, 1) := by decide +kernel
theorem dX3_has_13 : decode cX3_has 13 = .ok (.goto 4, 3) := by decide +kernel
theorem dX3_grow_0 : decode cX3_grow 0 = .ok (.aload_n 0, 1) := by decide +kernel
theorem dX3_grow_1 : decode cX3_grow 1 = .ok (.getfield 18, 3) := by decide +kernel
theorem dX3_grow_4 : decode cX3_grow 4 = .ok (.istore_n 1, 1) := by decide +kernel
theorem dX3_grow_5 : decode cX3_grow 5 = .ok (.aload_n 0, 1) := by decide +kernel
theorem dX3_grow_6 : decode cX3_grow 6 = .ok (.dup, 1) := by decide +kernel
theorem dX3_grow_7 : decode cX3_grow 7 = .ok (.getfield 18, 3) := by decide +kernel
theorem dX3_grow_10 : decode cX3_grow 10 = .ok (.iconst 1, 1) := by decide +kernel
theorem dX3_grow_11 : decode cX3_grow 11 = .ok (.iadd, 1) := by decide +kernel
theorem dX3_grow_12 : decode cX3_grow 12 = .ok (.putfield 18, 3) := by decide +kernel
theorem dX3_grow_15 : decode cX3_grow 15 = .ok (.iload_n 1, 1) := by decide +kernel
theorem dX3_grow_16 : decode cX3_grow 16 = .ok (.ireturn, 1) := by decide +kernel
theorem dX3_isSink_0 : decode cX3_isSink 0 = .ok (.iload_n 1, 1) := by decide +kernel
theorem dX3_isSink_1 : decode cX3_isSink 1 = .ok (.aload_n 0, 1) := by decide +kernel
theorem dX3_isSink_2 : decode cX3_isSink 2 = .ok (.getfield 22, 3) := by decide +kernel
theorem dX3_isSink_5 : decode cX3_isSink 5 = .ok (.if_icmp .ne 7, 3) := by decide +kernel
theorem dX3_isSink_12 : decode cX3_isSink 12 = .ok (.iconst 0, 1) := by decide +kernel
theorem dX3_isSink_13 : decode cX3_isSink 13 = .ok (.ireturn, 1) := by decide +kernel
theorem dX3_isSink_8 : decode cX3_isSink 8 = .ok (.iconst 1, 1) := by decide +kernel
theorem dX3_isSink_9 : decode cX3_isSink 9 = .ok (.goto 4, 3) := by decide +kernel
theorem dX3_moveSink_0 : decode cX3_moveSink 0 = .ok (.aload_n 0, 1) := by decide +kernel
theorem dX3_moveSink_1 : decode cX3_moveSink 1 = .ok (.iload_n 1, 1) := by decide +kernel
theorem dX3_moveSink_2 : decode cX3_moveSink 2 = .ok (.putfield 22, 3) := by decide +kernel
theorem dX3_moveSink_5 : decode cX3_moveSink 5 = .ok (.return_, 1) := by decide +kernel
theorem dX3_between_0 : decode cX3_between 0 = .ok (.iload_n 1, 1) := by decide +kernel
theorem dX3_between_1 : decode cX3_between 1 = .ok (.ifCond .lt 23, 3) := by decide +kernel
theorem dX3_between_4 : decode cX3_between 4 = .ok (.iload_n 1, 1) := by decide +kernel
theorem dX3_between_5 : decode cX3_between 5 = .ok (.aload_n 0, 1) := by decide +kernel
theorem dX3_between_6 : decode cX3_between 6 = .ok (.getfield 18, 3) := by decide +kernel
theorem dX3_between_9 : decode cX3_between 9 = .ok (.if_icmp .ge 15, 3) := by decide +kernel
theorem dX3_between_12 : decode cX3_between 12 = .ok (.iload_n 2, 1) := by decide +kernel
theorem dX3_between_13 : decode cX3_between 13 = .ok (.ifCond .lt 11, 3) := by decide +kernel
theorem dX3_between_16 : decode cX3_between 16 = .ok (.iload_n 2, 1) := by decide +kernel
theorem dX3_between_17 : decode cX3_between 17 = .ok (.aload_n 0, 1) := by decide +kernel
theorem dX3_between_18 : decode cX3_between 18 = .ok (.getfield 18, 3) := by decide +kernel
theorem dX3_between_21 : decode cX3_between 21 = .ok (.if_icmp .lt 5, 3) := by decide +kernel
theorem dX3_between_26 : decode cX3_between 26 = .ok (.iload_n 1, 1) := by decide +kernel
theorem dX3_between_27 : decode cX3_between 27 = .ok (.bipush 6, 2) := by decide +kernel
theorem dX3_between_29 : decode cX3_between 29 = .ok (.imul, 1) := by decide +kernel
theorem dX3_between_30 : decode cX3_between 30 = .ok (.iload_n 2, 1) := by decide +kernel
theorem dX3_between_31 : decode cX3_between 31 = .ok (.iadd, 1) := by decide +kernel
theorem dX3_between_32 : decode cX3_between 32 = .ok (.istore_n 3, 1) := by decide +kernel
theorem dX3_between_33 : decode cX3_between 33 = .ok (.iload_n 3, 1) := by decide +kernel
theorem dX3_between_34 : decode cX3_between 34 = .ok (.ifCond .lt 21, 3) := by decide +kernel
theorem dX3_between_37 : decode cX3_between 37 = .ok (.iload_n 3, 1) := by decide +kernel
theorem dX3_between_38 : decode cX3_between 38 = .ok (.aload_n 0, 1) := by decide +kernel
theorem dX3_between_39 : decode cX3_between 39 = .ok (.getfield 9, 3) := by decide +kernel
theorem dX3_between_42 : decode cX3_between 42 = .ok (.arraylength, 1) := by decide +kernel
theorem dX3_between_43 : decode cX3_between 43 = .ok (.if_icmp .ge 12, 3) := by decide +kernel
theorem dX3_between_46 : decode cX3_between 46 = .ok (.aload_n 0, 1) := by decide +kernel
theorem dX3_between_47 : decode cX3_between 47 = .ok (.getfield 9, 3) := by decide +kernel
theorem dX3_between_50 : decode cX3_between 50 = .ok (.iload_n 3, 1) := by decide +kernel
theorem dX3_between_51 : decode cX3_between 51 = .ok (.iaload, 1) := by decide +kernel
theorem dX3_between_52 : decode cX3_between 52 = .ok (.goto 4, 3) := by decide +kernel
theorem dX3_between_56 : decode cX3_between 56 = .ok (.ireturn, 1) := by decide +kernel
theorem dX3_degreeOf_0 : decode cX3_degreeOf 0 = .ok (.iload_n 1, 1) := by decide +kernel
theorem dX3_degreeOf_1 : decode cX3_degreeOf 1 = .ok (.ifCond .lt 21, 3) := by decide +kernel
theorem dX3_degreeOf_4 : decode cX3_degreeOf 4 = .ok (.iload_n 1, 1) := by decide +kernel
theorem dX3_degreeOf_5 : decode cX3_degreeOf 5 = .ok (.aload_n 0, 1) := by decide +kernel
theorem dX3_degreeOf_6 : decode cX3_degreeOf 6 = .ok (.getfield 15, 3) := by decide +kernel
theorem dX3_degreeOf_9 : decode cX3_degreeOf 9 = .ok (.arraylength, 1) := by decide +kernel
theorem dX3_degreeOf_10 : decode cX3_degreeOf 10 = .ok (.if_icmp .ge 12, 3) := by decide +kernel
theorem dX3_degreeOf_13 : decode cX3_degreeOf 13 = .ok (.aload_n 0, 1) := by decide +kernel
theorem dX3_degreeOf_14 : decode cX3_degreeOf 14 = .ok (.getfield 15, 3) := by decide +kernel
theorem dX3_degreeOf_17 : decode cX3_degreeOf 17 = .ok (.iload_n 1, 1) := by decide +kernel
theorem dX3_degreeOf_18 : decode cX3_degreeOf 18 = .ok (.iaload, 1) := by decide +kernel
theorem dX3_degreeOf_19 : decode cX3_degreeOf 19 = .ok (.goto 4, 3) := by decide +kernel
theorem dX3_degreeOf_23 : decode cX3_degreeOf 23 = .ok (.ireturn, 1) := by decide +kernel
theorem dX3_joinOneWay_0 : decode cX3_joinOneWay 0 = .ok (.iload_n 1, 1) := by decide +kernel
theorem dX3_joinOneWay_1 : decode cX3_joinOneWay 1 = .ok (.ifCond .lt 23, 3) := by decide +kernel
theorem dX3_joinOneWay_4 : decode cX3_joinOneWay 4 = .ok (.iload_n 1, 1) := by decide +kernel
theorem dX3_joinOneWay_5 : decode cX3_joinOneWay 5 = .ok (.aload_n 0, 1) := by decide +kernel
theorem dX3_joinOneWay_6 : decode cX3_joinOneWay 6 = .ok (.getfield 18, 3) := by decide +kernel
theorem dX3_joinOneWay_9 : decode cX3_joinOneWay 9 = .ok (.if_icmp .ge 15, 3) := by decide +kernel
theorem dX3_joinOneWay_12 : decode cX3_joinOneWay 12 = .ok (.iload_n 2, 1) := by decide +kernel
theorem dX3_joinOneWay_13 : decode cX3_joinOneWay 13 = .ok (.ifCond .lt 11, 3) := by decide +kernel
theorem dX3_joinOneWay_16 : decode cX3_joinOneWay 16 = .ok (.iload_n 2, 1) := by decide +kernel
theorem dX3_joinOneWay_17 : decode cX3_joinOneWay 17 = .ok (.aload_n 0, 1) := by decide +kernel
theorem dX3_joinOneWay_18 : decode cX3_joinOneWay 18 = .ok (.getfield 18, 3) := by decide +kernel
theorem dX3_joinOneWay_21 : decode cX3_joinOneWay 21 = .ok (.if_icmp .lt 4, 3) := by decide +kernel
theorem dX3_joinOneWay_25 : decode cX3_joinOneWay 25 = .ok (.iload_n 1, 1) := by decide +kernel
theorem dX3_joinOneWay_26 : decode cX3_joinOneWay 26 = .ok (.bipush 6, 2) := by decide +kernel
theorem dX3_joinOneWay_28 : decode cX3_joinOneWay 28 = .ok (.imul, 1) := by decide +kernel
theorem dX3_joinOneWay_29 : decode cX3_joinOneWay 29 = .ok (.iload_n 2, 1) := by decide +kernel
theorem dX3_joinOneWay_30 : decode cX3_joinOneWay 30 = .ok (.iadd, 1) := by decide +kernel
theorem dX3_joinOneWay_31 : decode cX3_joinOneWay 31 = .ok (.istore 4, 2) := by decide +kernel
theorem dX3_joinOneWay_33 : decode cX3_joinOneWay 33 = .ok (.iload 4, 2) := by decide +kernel
theorem dX3_joinOneWay_35 : decode cX3_joinOneWay 35 = .ok (.ifCond .lt 48, 3) := by decide +kernel
theorem dX3_joinOneWay_38 : decode cX3_joinOneWay 38 = .ok (.iload 4, 2) := by decide +kernel
theorem dX3_joinOneWay_40 : decode cX3_joinOneWay 40 = .ok (.aload_n 0, 1) := by decide +kernel
theorem dX3_joinOneWay_41 : decode cX3_joinOneWay 41 = .ok (.getfield 9, 3) := by decide +kernel
theorem dX3_joinOneWay_44 : decode cX3_joinOneWay 44 = .ok (.arraylength, 1) := by decide +kernel
theorem dX3_joinOneWay_45 : decode cX3_joinOneWay 45 = .ok (.if_icmp .ge 38, 3) := by decide +kernel
theorem dX3_joinOneWay_48 : decode cX3_joinOneWay 48 = .ok (.iload_n 1, 1) := by decide +kernel
theorem dX3_joinOneWay_49 : decode cX3_joinOneWay 49 = .ok (.aload_n 0, 1) := by decide +kernel
theorem dX3_joinOneWay_50 : decode cX3_joinOneWay 50 = .ok (.getfield 15, 3) := by decide +kernel
theorem dX3_joinOneWay_53 : decode cX3_joinOneWay 53 = .ok (.arraylength, 1) := by decide +kernel
theorem dX3_joinOneWay_54 : decode cX3_joinOneWay 54 = .ok (.if_icmp .ge 29, 3) := by decide +kernel
theorem dX3_joinOneWay_57 : decode cX3_joinOneWay 57 = .ok (.aload_n 0, 1) := by decide +kernel
theorem dX3_joinOneWay_58 : decode cX3_joinOneWay 58 = .ok (.getfield 15, 3) := by decide +kernel
theorem dX3_joinOneWay_61 : decode cX3_joinOneWay 61 = .ok (.iload_n 1, 1) := by decide +kernel
theorem dX3_joinOneWay_62 : decode cX3_joinOneWay 62 = .ok (.dup2, 1) := by decide +kernel
theorem dX3_joinOneWay_63 : decode cX3_joinOneWay 63 = .ok (.iaload, 1) := by decide +kernel
theorem dX3_joinOneWay_64 : decode cX3_joinOneWay 64 = .ok (.iload_n 3, 1) := by decide +kernel
theorem dX3_joinOneWay_65 : decode cX3_joinOneWay 65 = .ok (.aload_n 0, 1) := by decide +kernel
theorem dX3_joinOneWay_66 : decode cX3_joinOneWay 66 = .ok (.getfield 9, 3) := by decide +kernel
theorem dX3_joinOneWay_69 : decode cX3_joinOneWay 69 = .ok (.iload 4, 2) := by decide +kernel
theorem dX3_joinOneWay_71 : decode cX3_joinOneWay 71 = .ok (.iaload, 1) := by decide +kernel
theorem dX3_joinOneWay_72 : decode cX3_joinOneWay 72 = .ok (.isub, 1) := by decide +kernel
theorem dX3_joinOneWay_73 : decode cX3_joinOneWay 73 = .ok (.iadd, 1) := by decide +kernel
theorem dX3_joinOneWay_74 : decode cX3_joinOneWay 74 = .ok (.iastore, 1) := by decide +kernel
theorem dX3_joinOneWay_75 : decode cX3_joinOneWay 75 = .ok (.aload_n 0, 1) := by decide +kernel
theorem dX3_joinOneWay_76 : decode cX3_joinOneWay 76 = .ok (.getfield 9, 3) := by decide +kernel
theorem dX3_joinOneWay_79 : decode cX3_joinOneWay 79 = .ok (.iload 4, 2) := by decide +kernel
theorem dX3_joinOneWay_81 : decode cX3_joinOneWay 81 = .ok (.iload_n 3, 1) := by decide +kernel
theorem dX3_joinOneWay_82 : decode cX3_joinOneWay 82 = .ok (.iastore, 1) := by decide +kernel
theorem dX3_joinOneWay_83 : decode cX3_joinOneWay 83 = .ok (.return_, 1) := by decide +kernel
theorem dX3_join_0 : decode cX3_join 0 = .ok (.aload_n 0, 1) := by decide +kernel
theorem dX3_join_1 : decode cX3_join 1 = .ok (.iload_n 1, 1) := by decide +kernel
theorem dX3_join_2 : decode cX3_join 2 = .ok (.iload_n 2, 1) := by decide +kernel
theorem dX3_join_3 : decode cX3_join 3 = .ok (.iload_n 3, 1) := by decide +kernel
theorem dX3_join_4 : decode cX3_join 4 = .ok (.invokevirtual 25, 3) := by decide +kernel
theorem q_15 : (Jvm.Cond.code ({ cls := "Chipfold$Graph", name := "joinOneWay", desc := "(III)V" } : Jvm.MethodName) prog_5_method_7_code (5 : Nat) (Option.none : Option Jvm.ClassFile.FieldType)) ∈ WG := wg_3 (List.mem_of_getElem? (i := 199) rfl) rfl
theorem q_16 : (Jvm.Cond.initialized "Chipfold$Graph") ∈ WG := wg_1 (List.mem_of_getElem? (i := 2) (by decide +kernel)) (by decide +kernel)
theorem q_17 : (Jvm.Cond.selects "Chipfold$Graph" ({ cls := "Chipfold$Graph", name := "joinOneWay", desc := "(III)V" } : Jvm.MethodName) ({ cls := "Chipfold$Graph", name := "joinOneWay", desc := "(III)V" } : Jvm.MethodName)) ∈ WG := wg_0 (by decide +kernel) (by decide +kernel)
theorem q_18 : (Jvm.Cond.methodLink "Chipfold$Graph" (25 : Nat) ({ cls := "Chipfold$Graph", name := "joinOneWay", desc := "(III)V" } : Jvm.MethodName)) ∈ WG := wg_3 (List.mem_of_getElem? (i := 196) (by decide +kernel)) (by decide +kernel)
theorem q_19 : (Jvm.Cond.instanceMethod ({ cls := "Chipfold$Graph", name := "joinOneWay", desc := "(III)V" } : Jvm.MethodName)) ∈ WG := wg_3 (List.mem_of_getElem? (i := 198) (by decide +kernel)) (by decide +kernel)
theorem dX3_join_7 : decode cX3_join 7 = .ok (.aload_n 0, 1) := by decide +kernel
theorem dX3_join_8 : decode cX3_join 8 = .ok (.iload_n 2, 1) := by decide +kernel
theorem dX3_join_9 : decode cX3_join 9 = .ok (.iload_n 1, 1) := by decide +kernel
theorem dX3_join_10 : decode cX3_join 10 = .ok (.iload_n 3, 1) := by decide +kernel
theorem dX3_join_11 : decode cX3_join 11 = .ok (.invokevirtual 25, 3) := by decide +kernel
theorem dX3_join_14 : decode cX3_join 14 = .ok (.return_, 1) := by decide +kernel
theorem dX3_neighboursOf_0 : decode cX3_neighboursOf 0 = .ok (.iconst 0, 1) := by decide +kernel
theorem dX3_neighboursOf_1 : decode cX3_neighboursOf 1 = .ok (.istore_n 2, 1) := by decide +kernel
theorem dX3_neighboursOf_2 : decode cX3_neighboursOf 2 = .ok (.iconst 0, 1) := by decide +kernel
theorem dX3_neighboursOf_3 : decode cX3_neighboursOf 3 = .ok (.istore_n 3, 1) := by decide +kernel
theorem dX3_neighboursOf_4 : decode cX3_neighboursOf 4 = .ok (.iload_n 3, 1) := by decide +kernel
theorem dX3_neighboursOf_5 : decode cX3_neighboursOf 5 = .ok (.aload_n 0, 1) := by decide +kernel
theorem dX3_neighboursOf_6 : decode cX3_neighboursOf 6 = .ok (.getfield 18, 3) := by decide +kernel
theorem dX3_neighboursOf_9 : decode cX3_neighboursOf 9 = .ok (.if_icmp .ge 53, 3) := by decide +kernel
theorem dX3_neighboursOf_62 : decode cX3_neighboursOf 62 = .ok (.iload_n 2, 1) := by decide +kernel
theorem dX3_neighboursOf_63 : decode cX3_neighboursOf 63 = .ok (.ireturn, 1) := by decide +kernel
theorem dX3_neighboursOf_12 : decode cX3_neighboursOf 12 = .ok (.iconst 0, 1) := by decide +kernel
theorem dX3_neighboursOf_13 : decode cX3_neighboursOf 13 = .ok (.istore 4, 2) := by decide +kernel
theorem dX3_neighboursOf_15 : decode cX3_neighboursOf 15 = .ok (.iload 4, 2) := by decide +kernel
theorem dX3_neighboursOf_17 : decode cX3_neighboursOf 17 = .ok (.aload_n 0, 1) := by decide +kernel
theorem dX3_neighboursOf_18 : decode cX3_neighboursOf 18 = .ok (.getfield 18, 3) := by decide +kernel
theorem dX3_neighboursOf_21 : decode cX3_neighboursOf 21 = .ok (.if_icmp .ge 35, 3) := by decide +kernel
theorem dX3_neighboursOf_56 : decode cX3_neighboursOf 56 = .ok (.iinc 3 1, 3) := by decide +kernel
theorem dX3_neighboursOf_59 : decode cX3_neighboursOf 59 = .ok (.goto (-55), 3) := by decide +kernel
theorem dX3_neighboursOf_24 : decode cX3_neighboursOf 24 = .ok (.iload_n 1, 1) := by decide +kernel
theorem dX3_neighboursOf_25 : decode cX3_neighboursOf 25 = .ok (.iload_n 3, 1) := by decide +kernel
theorem dX3_neighboursOf_26 : decode cX3_neighboursOf 26 = .ok (.ishr, 1) := by decide +kernel
theorem dX3_neighboursOf_27 : decode cX3_neighboursOf 27 = .ok (.iconst 1, 1) := by decide +kernel
theorem dX3_neighboursOf_28 : decode cX3_neighboursOf 28 = .ok (.iand, 1) := by decide +kernel
theorem dX3_neighboursOf_29 : decode cX3_neighboursOf 29 = .ok (.iconst 1, 1) := by decide +kernel
theorem dX3_neighboursOf_30 : decode cX3_neighboursOf 30 = .ok (.if_icmp .ne 20, 3) := by decide +kernel
theorem dX3_neighboursOf_50 : decode cX3_neighboursOf 50 = .ok (.iinc 4 1, 3) := by decide +kernel
theorem dX3_neighboursOf_53 : decode cX3_neighboursOf 53 = .ok (.goto (-38), 3) := by decide +kernel
theorem dX3_neighboursOf_33 : decode cX3_neighboursOf 33 = .ok (.aload_n 0, 1) := by decide +kernel
theorem dX3_neighboursOf_34 : decode cX3_neighboursOf 34 = .ok (.iload_n 3, 1) := by decide +kernel
theorem dX3_neighboursOf_35 : decode cX3_neighboursOf 35 = .ok (.iload 4, 2) := by decide +kernel
theorem dX3_neighboursOf_37 : decode cX3_neighboursOf 37 = .ok (.invokevirtual 33, 3) := by decide +kernel
theorem q_20 : (Jvm.Cond.code ({ cls := "Chipfold$Graph", name := "between", desc := "(II)I" } : Jvm.MethodName) prog_5_method_5_code (4 : Nat) (Option.some Jvm.ClassFile.FieldType.int)) ∈ WG := wg_2 (List.mem_of_getElem? (i := 34) rfl) rfl
theorem q_21 : (Jvm.Cond.selects "Chipfold$Graph" ({ cls := "Chipfold$Graph", name := "between", desc := "(II)I" } : Jvm.MethodName) ({ cls := "Chipfold$Graph", name := "between", desc := "(II)I" } : Jvm.MethodName)) ∈ WG := wg_2 (List.mem_of_getElem? (i := 33) (by decide +kernel)) (by decide +kernel)
theorem q_22 : (Jvm.Cond.methodLink "Chipfold$Graph" (33 : Nat) ({ cls := "Chipfold$Graph", name := "between", desc := "(II)I" } : Jvm.MethodName)) ∈ WG := wg_2 (List.mem_of_getElem? (i := 31) (by decide +kernel)) (by decide +kernel)
theorem q_23 : (Jvm.Cond.instanceMethod ({ cls := "Chipfold$Graph", name := "between", desc := "(II)I" } : Jvm.MethodName)) ∈ WG := wg_2 (List.mem_of_getElem? (i := 32) (by decide +kernel)) (by decide +kernel)
theorem dX3_neighboursOf_40 : decode cX3_neighboursOf 40 = .ok (.ifCond .le 10, 3) := by decide +kernel
theorem dX3_neighboursOf_43 : decode cX3_neighboursOf 43 = .ok (.iload_n 2, 1) := by decide +kernel
theorem dX3_neighboursOf_44 : decode cX3_neighboursOf 44 = .ok (.iconst 1, 1) := by decide +kernel
theorem dX3_neighboursOf_45 : decode cX3_neighboursOf 45 = .ok (.iload 4, 2) := by decide +kernel
theorem dX3_neighboursOf_47 : decode cX3_neighboursOf 47 = .ok (.ishl, 1) := by decide +kernel
theorem dX3_neighboursOf_48 : decode cX3_neighboursOf 48 = .ok (.ior, 1) := by decide +kernel
theorem dX3_neighboursOf_49 : decode cX3_neighboursOf 49 = .ok (.istore_n 2, 1) := by decide +kernel
theorem dX3_isConnected_0 : decode cX3_isConnected 0 = .ok (.aload_n 0, 1) := by decide +kernel
theorem dX3_isConnected_1 : decode cX3_isConnected 1 = .ok (.getfield 18, 3) := by decide +kernel
theorem dX3_isConnected_4 : decode cX3_isConnected 4 = .ok (.iconst 2, 1) := by decide +kernel
theorem dX3_isConnected_5 : decode cX3_isConnected 5 = .ok (.if_icmp .ge 5, 3) := by decide +kernel
theorem dX3_isConnected_10 : decode cX3_isConnected 10 = .ok (.iconst 1, 1) := by decide +kernel
theorem dX3_isConnected_11 : decode cX3_isConnected 11 = .ok (.aload_n 0, 1) := by decide +kernel
theorem dX3_isConnected_12 : decode cX3_isConnected 12 = .ok (.getfield 18, 3) := by decide +kernel
theorem dX3_isConnected_15 : decode cX3_isConnected 15 = .ok (.ishl, 1) := by decide +kernel
theorem dX3_isConnected_16 : decode cX3_isConnected 16 = .ok (.iconst 1, 1) := by decide +kernel
theorem dX3_isConnected_17 : decode cX3_isConnected 17 = .ok (.isub, 1) := by decide +kernel
theorem dX3_isConnected_18 : decode cX3_isConnected 18 = .ok (.istore_n 1, 1) := by decide +kernel
theorem dX3_isConnected_19 : decode cX3_isConnected 19 = .ok (.iconst 1, 1) := by decide +kernel
theorem dX3_isConnected_20 : decode cX3_isConnected 20 = .ok (.istore_n 2, 1) := by decide +kernel
theorem dX3_isConnected_21 : decode cX3_isConnected 21 = .ok (.iconst 1, 1) := by decide +kernel
theorem dX3_isConnected_22 : decode cX3_isConnected 22 = .ok (.istore_n 3, 1) := by decide +kernel
theorem dX3_isConnected_23 : decode cX3_isConnected 23 = .ok (.iload_n 3, 1) := by decide +kernel
theorem dX3_isConnected_24 : decode cX3_isConnected 24 = .ok (.aload_n 0, 1) := by decide +kernel
theorem dX3_isConnected_25 : decode cX3_isConnected 25 = .ok (.getfield 18, 3) := by decide +kernel
theorem dX3_isConnected_28 : decode cX3_isConnected 28 = .ok (.if_icmp .ge 17, 3) := by decide +kernel
theorem dX3_isConnected_45 : decode cX3_isConnected 45 = .ok (.iload_n 2, 1) := by decide +kernel
theorem dX3_isConnected_46 : decode cX3_isConnected 46 = .ok (.iload_n 1, 1) := by decide +kernel
theorem dX3_isConnected_47 : decode cX3_isConnected 47 = .ok (.if_icmp .ne 7, 3) := by decide +kernel
theorem dX3_isConnected_54 : decode cX3_isConnected 54 = .ok (.iconst 0, 1) := by decide +kernel
theorem dX3_isConnected_55 : decode cX3_isConnected 55 = .ok (.ireturn, 1) := by decide +kernel
theorem dX3_isConnected_50 : decode cX3_isConnected 50 = .ok (.iconst 1, 1) := by decide +kernel
theorem dX3_isConnected_51 : decode cX3_isConnected 51 = .ok (.goto 4, 3) := by decide +kernel
theorem dX3_isConnected_31 : decode cX3_isConnected 31 = .ok (.iload_n 2, 1) := by decide +kernel
theorem dX3_isConnected_32 : decode cX3_isConnected 32 = .ok (.aload_n 0, 1) := by decide +kernel
theorem dX3_isConnected_33 : decode cX3_isConnected 33 = .ok (.iload_n 2, 1) := by decide +kernel
theorem dX3_isConnected_34 : decode cX3_isConnected 34 = .ok (.invokevirtual 29, 3) := by decide +kernel
theorem q_24 : (Jvm.Cond.code ({ cls := "Chipfold$Graph", name := "neighboursOf", desc := "(I)I" } : Jvm.MethodName) prog_5_method_16_code (5 : Nat) (Option.some Jvm.ClassFile.FieldType.int)) ∈ WG := wg_2 (List.mem_of_getElem? (i := 30) rfl) rfl
theorem q_25 : (Jvm.Cond.selects "Chipfold$Graph" ({ cls := "Chipfold$Graph", name := "neighboursOf", desc := "(I)I" } : Jvm.MethodName) ({ cls := "Chipfold$Graph", name := "neighboursOf", desc := "(I)I" } : Jvm.MethodName)) ∈ WG := wg_0 (by decide +kernel) (by decide +kernel)
theorem q_26 : (Jvm.Cond.methodLink "Chipfold$Graph" (29 : Nat) ({ cls := "Chipfold$Graph", name := "neighboursOf", desc := "(I)I" } : Jvm.MethodName)) ∈ WG := wg_2 (List.mem_of_getElem? (i := 27) (by decide +kernel)) (by decide +kernel)
theorem q_27 : (Jvm.Cond.instanceMethod ({ cls := "Chipfold$Graph", name := "neighboursOf", desc := "(I)I" } : Jvm.MethodName)) ∈ WG := wg_2 (List.mem_of_getElem? (i := 29) (by decide +kernel)) (by decide +kernel)
theorem dX3_isConnected_37 : decode cX3_isConnected 37 = .ok (.ior, 1) := by decide +kernel
theorem dX3_isConnected_38 : decode cX3_isConnected 38 = .ok (.istore_n 2, 1) := by decide +kernel
theorem dX3_isConnected_39 : decode cX3_isConnected 39 = .ok (.iinc 3 1, 3) := by decide +kernel
theorem dX3_isConnected_42 : decode cX3_isConnected 42 = .ok (.goto (-19), 3) := by decide +kernel
theorem dX3_isConnected_8 : decode cX3_isConnected 8 = .ok (.iconst 0, 1) := by decide +kernel
theorem dX3_isConnected_9 : decode cX3_isConnected 9 = .ok (.ireturn, 1) := by decide +kernel
set_option maxRecDepth 100000 in
set_option maxHeartbeats 400000 in
theorem c_X3_init {l : Launch} {D : va_G} {k : Nat → ClassId} (h : Nat)  : CM l D k yX3_init cX3_init 1 none  1 12 [.ref h] [(h, .inr (7, [.null, .null, .int 0, .int 0]))] (fun rv9 w9 => rv9 = none ∧ ∃ (jj : Nat) (dd : Nat), w9 = [(h, .inr (7, [.ref jj, .ref dd, .int (nI 0), .int (nI 0)])), (jj, aI k 36 (fun _ => 0)), (dd, aI k 6 (fun _ => 0))]) 2 42 2 := by
  refine CM.of (lv0 := [(0, .ref h)]) (by decide +kernel) (Nat.le_of_ble_eq_true rfl) rfl ?_
  intro p e s m below meth c C hr hlk hin had
  refine g_aload_n (pc := 0) C 0 rfl rfl dX3_init_0 ?_
  refine g_obj (pc := 1) C q_10 q_2 q_3 (Nat.le_of_ble_eq_true rfl) (Nat.le_of_ble_eq_true rfl) dX3_init_1 ?_
  refine g_aload_n (pc := 4) C 0 rfl rfl dX3_init_4 ?_
  refine g_bipush (pc := 5) (v := 36) C (by decide) dX3_init_5 ?_
  refine g_newI (pc := 7) (cells := 0) (slots := 0) (g := 0) C 36 q_4 (by decide) (by decide) (Nat.le_of_ble_eq_true rfl) (Nat.le_of_ble_eq_true rfl) (Nat.le_of_ble_eq_true rfl) dX3_init_7 (fun q1 => ?_)
  refine G.eqw (ws' := [(h, .inr (7, [.null, .null, .int 0, .int 0])), (q1, aI k 36 (fun _ => 0))]) rfl ?_
  refine g_putF (pc := 9) C (T := TX3) inX3 0 rfl rfl 0 (by decide) q_11 rfl tyX3 tyX3_ok nmX3 rfl hin rfl [(h, .inr (7, [.ref q1, .null, .int 0, .int 0])), (q1, aI k 36 (fun _ => 0))] (tyX3_ok 0 (by decide)) rfl rfl (Nat.le_of_ble_eq_true rfl) rfl dX3_init_9 ?_
  refine g_aload_n (pc := 12) C 0 rfl rfl dX3_init_12 ?_
  refine g_bipush (pc := 13) (v := 6) C (by decide) dX3_init_13 ?_
  refine g_newI (pc := 15) (cells := 1) (slots := 36) (g := 1) C 6 q_4 (by decide) (by decide) (Nat.le_of_ble_eq_true rfl) (Nat.le_of_ble_eq_true rfl) (Nat.le_of_ble_eq_true rfl) dX3_init_15 (fun q2 => ?_)
  refine G.eqw (ws' := [(h, .inr (7, [.ref q1, .null, .int 0, .int 0])), (q1, aI k 36 (fun _ => 0)), (q2, aI k 6 (fun _ => 0))]) rfl ?_
  refine g_putF (pc := 17) C (T := TX3) inX3 0 rfl rfl 1 (by decide) q_12 rfl tyX3 tyX3_ok nmX3 rfl hin rfl [(h, .inr (7, [.ref q1, .ref q2, .int 0, .int 0])), (q1, aI k 36 (fun _ => 0)), (q2, aI k 6 (fun _ => 0))] (tyX3_ok 1 (by decide)) rfl rfl (Nat.le_of_ble_eq_true rfl) rfl dX3_init_17 ?_
  refine g_aload_n (pc := 20) C 0 rfl rfl dX3_init_20 ?_
  refine g_iconst (pc := 21) (v := 0) C (by decide) dX3_init_21 ?_
  refine g_put (pc := 22) C (T := TX3) inX3 0 rfl rfl 2 (by decide) q_13 rfl tyX3 tyX3_ok nmX3 rfl [(h, .inr (7, [.ref q1, .ref q2, .int 0, .int 0])), (q1, aI k 36 (fun _ => 0)), (q2, aI k 6 (fun _ => 0))] (tyX3_ok 2 (by decide)) rfl (by rfl) (Nat.le_of_ble_eq_true rfl) rfl dX3_init_22 ?_
  refine g_aload_n (pc := 25) C 0 rfl rfl dX3_init_25 ?_
  refine g_iconst (pc := 26) (v := 0) C (by decide) dX3_init_26 ?_
  refine g_put (pc := 27) C (T := TX3) inX3 0 rfl rfl 3 (by decide) q_14 rfl tyX3 tyX3_ok nmX3 rfl [(h, .inr (7, [.ref q1, .ref q2, .int 0, .int 0])), (q1, aI k 36 (fun _ => 0)), (q2, aI k 6 (fun _ => 0))] (tyX3_ok 3 (by decide)) rfl (by rfl) (Nat.le_of_ble_eq_true rfl) rfl dX3_init_27 ?_
  refine G.eqw (ws' := [(h, .inr (7, [.ref q1, .ref q2, .int (nI 0), .int 0])), (q1, aI k 36 (fun _ => 0)), (q2, aI k 6 (fun _ => 0))]) (congrArg (β := va_W) (fun z9 => [(h, .inr (7, [.ref q1, .ref q2, .int z9, .int 0])), (q1, aI k 36 (fun _ => 0)), (q2, aI k 6 (fun _ => 0))]) (show (0 : Int32) = (nI 0) from by first | rfl | simp_all)) ?_
  refine G.eqw (ws' := [(h, .inr (7, [.ref q1, .ref q2, .int (nI 0), .int (nI 0)])), (q1, aI k 36 (fun _ => 0)), (q2, aI k 6 (fun _ => 0))]) (congrArg (β := va_W) (fun z9 => [(h, .inr (7, [.ref q1, .ref q2, .int (nI 0), .int z9])), (q1, aI k 36 (fun _ => 0)), (q2, aI k 6 (fun _ => 0))]) (show (0 : Int32) = (nI 0) from by first | rfl | simp_all)) ?_
  exact g_vret (pc := 30) C hr hlk (by first | decide | omega) (by first | decide | omega) (by first | decide | omega) dX3_init_30 ⟨rfl, q1, q2, rfl⟩
set_option maxRecDepth 100000 in
set_option maxHeartbeats 400000 in
theorem c_X3_size {l : Launch} {D : va_G} {k : Nat → ClassId} (h : Nat) (jj : Nat) (dd : Nat) (n : Nat) (z : Nat) (fj : Nat → Int32) (fd : Nat → Int32)  : CM l D k yX3_size cX3_size 1 (some .int)  0 0 [.ref h] [(h, .inr (7, [.ref jj, .ref dd, .int (nI n), .int (nI z)])), (jj, aI k 36 fj), (dd, aI k 6 fd)] (is1 (some (.int (nI n))) [(h, .inr (7, [.ref jj, .ref dd, .int (nI n), .int (nI z)])), (jj, aI k 36 fj), (dd, aI k 6 fd)]) 0 0 0 := by
  refine CM.of (lv0 := [(0, .ref h)]) (by decide +kernel) (Nat.le_of_ble_eq_true rfl) rfl ?_
  intro p e s m below meth c C hr hlk hin had
  refine g_aload_n (pc := 0) C 0 rfl rfl dX3_size_0 ?_
  refine g_get (pc := 1) C (T := TX3) inX3 0 rfl rfl 2 (by decide) q_13 rfl rfl dX3_size_1 ?_
  exact g_iret (pc := 4) C hr hlk (by first | decide | omega) (by first | decide | omega) (by first | decide | omega) dX3_size_4 ⟨rfl, rfl⟩
set_option maxRecDepth 100000 in
set_option maxHeartbeats 400000 in
theorem c_X3_sinkVertex {l : Launch} {D : va_G} {k : Nat → ClassId} (h : Nat) (jj : Nat) (dd : Nat) (n : Nat) (z : Nat) (fj : Nat → Int32) (fd : Nat → Int32)  : CM l D k yX3_sinkVertex cX3_sinkVertex 1 (some .int)  0 0 [.ref h] [(h, .inr (7, [.ref jj, .ref dd, .int (nI n), .int (nI z)])), (jj, aI k 36 fj), (dd, aI k 6 fd)] (is1 (some (.int (nI z))) [(h, .inr (7, [.ref jj, .ref dd, .int (nI n), .int (nI z)])), (jj, aI k 36 fj), (dd, aI k 6 fd)]) 0 0 0 := by
  refine CM.of (lv0 := [(0, .ref h)]) (by decide +kernel) (Nat.le_of_ble_eq_true rfl) rfl ?_
  intro p e s m below meth c C hr hlk hin had
  refine g_aload_n (pc := 0) C 0 rfl rfl dX3_sinkVertex_0 ?_
  refine g_get (pc := 1) C (T := TX3) inX3 0 rfl rfl 3 (by decide) q_14 rfl rfl dX3_sinkVertex_1 ?_
  exact g_iret (pc := 4) C hr hlk (by first | decide | omega) (by first | decide | omega) (by first | decide | omega) dX3_sinkVertex_4 ⟨rfl, rfl⟩
def gHas (n : Nat) (v : Int32) : Bool := decide (¬ v < 0 ∧ ¬ nI n ≤ v)
set_option maxRecDepth 100000 in
set_option maxHeartbeats 400000 in
theorem c_X3_has {l : Launch} {D : va_G} {k : Nat → ClassId} (h : Nat) (jj : Nat) (dd : Nat) (n : Nat) (z : Nat) (fj : Nat → Int32) (fd : Nat → Int32) (v : Int32)  : CM l D k yX3_has cX3_has 2 (some .boolean)  0 0 [.ref h, .int v] [(h, .inr (7, [.ref jj, .ref dd, .int (nI n), .int (nI z)])), (jj, aI k 36 fj), (dd, aI k 6 fd)] (is1 (some (.int (bI (gHas n v)))) [(h, .inr (7, [.ref jj, .ref dd, .int (nI n), .int (nI z)])), (jj, aI k 36 fj), (dd, aI k 6 fd)]) 0 0 0 := by
  refine CM.of (lv0 := [(0, .ref h), (1, .int v)]) (by decide +kernel) (Nat.le_of_ble_eq_true rfl) rfl ?_
  intro p e s m below meth c C hr hlk hin had
  refine g_iload_n (pc := 0) C 1 rfl rfl dX3_has_0 ?_
  refine g_if_lt (pc := 1) C 16 (by decide) dX3_has_1 (fun c_1 => ?_) (fun c_1 => ?_)
  · refine g_iconst (pc := 16) (v := 0) C (by decide) dX3_has_16 ?_
    refine G.eqs (st' := [.int (bI (gHas n v))]) (congrArg (fun z9 => [Value.int z9]) (show (0 : Int32) = (bI (gHas n v)) from by simp [gHas, bI, *])) ?_
    exact g_zret (pc := 17) C hr (by first | rfl | exact bI_nar _) hlk (by first | decide | omega) (by first | decide | omega) (by first | decide | omega) dX3_has_17 ⟨rfl, rfl⟩
  · refine g_iload_n (pc := 4) C 1 rfl rfl dX3_has_4 ?_
    refine g_aload_n (pc := 5) C 0 rfl rfl dX3_has_5 ?_
    refine g_get (pc := 6) C (T := TX3) inX3 0 rfl rfl 2 (by decide) q_13 rfl rfl dX3_has_6 ?_
    refine g_icmp_ge (pc := 9) C 16 (by decide) dX3_has_9 (fun c_9 => ?_) (fun c_9 => ?_)
    · refine g_iconst (pc := 16) (v := 0) C (by decide) dX3_has_16 ?_
      refine G.eqs (st' := [.int (bI (gHas n v))]) (congrArg (fun z9 => [Value.int z9]) (show (0 : Int32) = (bI (gHas n v)) from by simp [gHas, bI, *])) ?_
      exact g_zret (pc := 17) C hr (by first | rfl | exact bI_nar _) hlk (by first | decide | omega) (by first | decide | omega) (by first | decide | omega) dX3_has_17 ⟨rfl, rfl⟩
    · refine g_iconst (pc := 12) (v := 1) C (by decide) dX3_has_12 ?_
      refine g_goto (pc := 13) C 17 (by decide) dX3_has_13 ?_
      refine G.eqs (st' := [.int (bI (gHas n v))]) (congrArg (fun z9 => [Value.int z9]) (show (1 : Int32) = (bI (gHas n v)) from by simp [gHas, bI, *])) ?_
      exact g_zret (pc := 17) C hr (by first | rfl | exact bI_nar _) hlk (by first | decide | omega) (by first | decide | omega) (by first | decide | omega) dX3_has_17 ⟨rfl, rfl⟩
set_option maxRecDepth 100000 in
set_option maxHeartbeats 400000 in
theorem c_X3_grow {l : Launch} {D : va_G} {k : Nat → ClassId} (h : Nat) (jj : Nat) (dd : Nat) (n : Nat) (z : Nat) (fj : Nat → Int32) (fd : Nat → Int32)  : CM l D k yX3_grow cX3_grow 2 (some .int)  0 0 [.ref h] [(h, .inr (7, [.ref jj, .ref dd, .int (nI n), .int (nI z)])), (jj, aI k 36 fj), (dd, aI k 6 fd)] (is1 (some (.int (nI n))) [(h, .inr (7, [.ref jj, .ref dd, .int (nI (n + 1)), .int (nI z)])), (jj, aI k 36 fj), (dd, aI k 6 fd)]) 0 0 0 := by
  refine CM.of (lv0 := [(0, .ref h)]) (by decide +kernel) (Nat.le_of_ble_eq_true rfl) rfl ?_
  intro p e s m below meth c C hr hlk hin had
  refine g_aload_n (pc := 0) C 0 rfl rfl dX3_grow_0 ?_
  refine g_get (pc := 1) C (T := TX3) inX3 0 rfl rfl 2 (by decide) q_13 rfl rfl dX3_grow_1 ?_
  refine g_istore_n (pc := 4) C [(1, .int (nI n)), (0, .ref h)] rfl dX3_grow_4 (by decide) rfl ?_
  refine g_aload_n (pc := 5) C 1 rfl rfl dX3_grow_5 ?_
  refine g_dup (pc := 6) C rfl dX3_grow_6 ?_
  refine g_get (pc := 7) C (T := TX3) inX3 0 rfl rfl 2 (by decide) q_13 rfl rfl dX3_grow_7 ?_
  refine g_iconst (pc := 10) (v := 1) C (by decide) dX3_grow_10 ?_
  refine g_iadd (pc := 11) C dX3_grow_11 ?_
  refine G.eqs (st' := [.int (nI (n + 1)), .ref h]) (congrArg (β := List Value) (fun z9 => [.int z9, .ref h]) (show (((nI n) + 1) : Int32) = (nI (n + 1)) from nI_1 n)) ?_
  refine g_put (pc := 12) C (T := TX3) inX3 0 rfl rfl 2 (by decide) q_13 rfl tyX3 tyX3_ok nmX3 rfl [(h, .inr (7, [.ref jj, .ref dd, .int (nI (n + 1)), .int (nI z)])), (jj, aI k 36 fj), (dd, aI k 6 fd)] (tyX3_ok 2 (by decide)) rfl (by rfl) (Nat.le_of_ble_eq_true rfl) rfl dX3_grow_12 ?_
  refine g_iload_n (pc := 15) C 0 rfl rfl dX3_grow_15 ?_
  exact g_iret (pc := 16) C hr hlk (by first | decide | omega) (by first | decide | omega) (by first | decide | omega) dX3_grow_16 ⟨rfl, rfl⟩
set_option maxRecDepth 100000 in
set_option maxHeartbeats 400000 in
theorem c_X3_isSink {l : Launch} {D : va_G} {k : Nat → ClassId} (h : Nat) (jj : Nat) (dd : Nat) (n : Nat) (z : Nat) (fj : Nat → Int32) (fd : Nat → Int32) (v : Nat) (hv : v < 2 ^ 31) (hz : z < 2 ^ 31) : CM l D k yX3_isSink cX3_isSink 2 (some .boolean)  0 0 [.ref h, .int (nI v)] [(h, .inr (7, [.ref jj, .ref dd, .int (nI n), .int (nI z)])), (jj, aI k 36 fj), (dd, aI k 6 fd)] (is1 (some (.int (bI (decide (v = z))))) [(h, .inr (7, [.ref jj, .ref dd, .int (nI n), .int (nI z)])), (jj, aI k 36 fj), (dd, aI k 6 fd)]) 0 0 0 := by
  refine CM.of (lv0 := [(0, .ref h), (1, .int (nI v))]) (by decide +kernel) (Nat.le_of_ble_eq_true rfl) rfl ?_
  intro p e s m below meth c C hr hlk hin had
  refine g_iload_n (pc := 0) C 1 rfl rfl dX3_isSink_0 ?_
  refine g_aload_n (pc := 1) C 0 rfl rfl dX3_isSink_1 ?_
  refine g_get (pc := 2) C (T := TX3) inX3 0 rfl rfl 3 (by decide) q_14 rfl rfl dX3_isSink_2 ?_
  refine g_icmp_ne (pc := 5) C 12 (by decide) dX3_isSink_5 (fun c_5 => ?_) (fun c_5 => ?_)
  · refine g_iconst (pc := 12) (v := 0) C (by decide) dX3_isSink_12 ?_
    refine G.eqs (st' := [.int (bI (decide (v = z)))]) (congrArg (fun z9 => [Value.int z9]) (show (0 : Int32) = (bI (decide (v = z))) from by first | (rw [nI_eq hv hz] at c_5; simp [bI, c_5]) | (simp [bI, c_5]))) ?_
    exact g_zret (pc := 13) C hr (by first | rfl | exact bI_nar _) hlk (by first | decide | omega) (by first | decide | omega) (by first | decide | omega) dX3_isSink_13 ⟨rfl, rfl⟩
  · refine g_iconst (pc := 8) (v := 1) C (by decide) dX3_isSink_8 ?_
    refine g_goto (pc := 9) C 13 (by decide) dX3_isSink_9 ?_
    refine G.eqs (st' := [.int (bI (decide (v = z)))]) (congrArg (fun z9 => [Value.int z9]) (show (1 : Int32) = (bI (decide (v = z))) from by first | (rw [nI_eq hv hz] at c_5; simp [bI, c_5]) | (simp [bI, c_5]))) ?_
    exact g_zret (pc := 13) C hr (by first | rfl | exact bI_nar _) hlk (by first | decide | omega) (by first | decide | omega) (by first | decide | omega) dX3_isSink_13 ⟨rfl, rfl⟩
set_option maxRecDepth 100000 in
set_option maxHeartbeats 400000 in
theorem c_X3_moveSink {l : Launch} {D : va_G} {k : Nat → ClassId} (h : Nat) (jj : Nat) (dd : Nat) (n : Nat) (z : Nat) (fj : Nat → Int32) (fd : Nat → Int32) (v : Nat)  : CM l D k yX3_moveSink cX3_moveSink 2 none  0 0 [.ref h, .int (nI v)] [(h, .inr (7, [.ref jj, .ref dd, .int (nI n), .int (nI z)])), (jj, aI k 36 fj), (dd, aI k 6 fd)] (is1 none [(h, .inr (7, [.ref jj, .ref dd, .int (nI n), .int (nI v)])), (jj, aI k 36 fj), (dd, aI k 6 fd)]) 0 0 0 := by
  refine CM.of (lv0 := [(0, .ref h), (1, .int (nI v))]) (by decide +kernel) (Nat.le_of_ble_eq_true rfl) rfl ?_
  intro p e s m below meth c C hr hlk hin had
  refine g_aload_n (pc := 0) C 0 rfl rfl dX3_moveSink_0 ?_
  refine g_iload_n (pc := 1) C 1 rfl rfl dX3_moveSink_1 ?_
  refine g_put (pc := 2) C (T := TX3) inX3 0 rfl rfl 3 (by decide) q_14 rfl tyX3 tyX3_ok nmX3 rfl [(h, .inr (7, [.ref jj, .ref dd, .int (nI n), .int (nI v)])), (jj, aI k 36 fj), (dd, aI k 6 fd)] (tyX3_ok 3 (by decide)) rfl (by rfl) (Nat.le_of_ble_eq_true rfl) rfl dX3_moveSink_2 ?_
  exact g_vret (pc := 5) C hr hlk (by first | decide | omega) (by first | decide | omega) (by first | decide | omega) dX3_moveSink_5 ⟨rfl, rfl⟩
set_option maxRecDepth 100000 in
set_option maxHeartbeats 400000 in
theorem c_X3_between {l : Launch} {D : va_G} {k : Nat → ClassId} (h : Nat) (jj : Nat) (dd : Nat) (n : Nat) (z : Nat) (fj : Nat → Int32) (fd : Nat → Int32) (v : Nat) (w : Nat) (hn : n ≤ 6) (hv : v < n) (hw : w < n) : CM l D k yX3_between cX3_between 4 (some .int)  0 0 [.ref h, .int (nI v), .int (nI w)] [(h, .inr (7, [.ref jj, .ref dd, .int (nI n), .int (nI z)])), (jj, aI k 36 fj), (dd, aI k 6 fd)] (is1 (some (.int (fj (v * 6 + w)))) [(h, .inr (7, [.ref jj, .ref dd, .int (nI n), .int (nI z)])), (jj, aI k 36 fj), (dd, aI k 6 fd)]) 0 0 0 := by
  refine CM.of (lv0 := [(0, .ref h), (1, .int (nI v)), (2, .int (nI w))]) (by decide +kernel) (Nat.le_of_ble_eq_true rfl) rfl ?_
  intro p e s m below meth c C hr hlk hin had
  refine g_iload_n (pc := 0) C 1 rfl rfl dX3_between_0 ?_
  refine g_if_lt (pc := 1) C 24 (by decide) dX3_between_1 (fun c_1 => ?_) (fun c_1 => ?_)
  · exact absurd c_1 (nI_pos (by omega))
  · refine g_iload_n (pc := 4) C 1 rfl rfl dX3_between_4 ?_
    refine g_aload_n (pc := 5) C 0 rfl rfl dX3_between_5 ?_
    refine g_get (pc := 6) C (T := TX3) inX3 0 rfl rfl 2 (by decide) q_13 rfl rfl dX3_between_6 ?_
    refine g_icmp_ge (pc := 9) C 24 (by decide) dX3_between_9 (fun c_9 => ?_) (fun c_9 => ?_)
    · exact absurd c_9 (nI_ge hv (by omega))
    · refine g_iload_n (pc := 12) C 2 rfl rfl dX3_between_12 ?_
      refine g_if_lt (pc := 13) C 24 (by decide) dX3_between_13 (fun c_13 => ?_) (fun c_13 => ?_)
      · exact absurd c_13 (nI_pos (by omega))
      · refine g_iload_n (pc := 16) C 2 rfl rfl dX3_between_16 ?_
        refine g_aload_n (pc := 17) C 0 rfl rfl dX3_between_17 ?_
        refine g_get (pc := 18) C (T := TX3) inX3 0 rfl rfl 2 (by decide) q_13 rfl rfl dX3_between_18 ?_
        refine g_icmp_lt (pc := 21) C 26 (by decide) dX3_between_21 (fun c_21 => ?_) (fun c_21 => ?_)
        · refine g_iload_n (pc := 26) C 1 rfl rfl dX3_between_26 ?_
          refine g_bipush (pc := 27) (v := 6) C (by decide) dX3_between_27 ?_
          refine g_imul (pc := 29) C dX3_between_29 ?_
          refine g_iload_n (pc := 30) C 2 rfl rfl dX3_between_30 ?_
          refine g_iadd (pc := 31) C dX3_between_31 ?_
          refine G.eqs (st' := [.int (nI (v * 6 + w))]) (congrArg (β := List Value) (fun z9 => [.int z9]) (show ((((nI v) * 6) + (nI w)) : Int32) = (nI (v * 6 + w)) from by rw [show (6 : Int32) = nI 6 from rfl, pk_mul, nI_add])) ?_
          refine g_istore_n (pc := 32) C [(3, .int (nI (v * 6 + w))), (0, .ref h), (1, .int (nI v)), (2, .int (nI w))] rfl dX3_between_32 (by decide) rfl ?_
          refine g_iload_n (pc := 33) C 0 rfl rfl dX3_between_33 ?_
          refine g_if_lt (pc := 34) C 55 (by decide) dX3_between_34 (fun c_34 => ?_) (fun c_34 => ?_)
          · exact absurd c_34 (nI_pos (by omega))
          · refine g_iload_n (pc := 37) C 0 rfl rfl dX3_between_37 ?_
            refine g_aload_n (pc := 38) C 1 rfl rfl dX3_between_38 ?_
            refine g_get (pc := 39) C (T := TX3) inX3 0 rfl rfl 0 (by decide) q_11 rfl rfl dX3_between_39 ?_
            refine g_alen (pc := 42) C 1 rfl (t0 := 0) rfl (v := (nI 36)) rfl dX3_between_42 ?_
            refine g_icmp_ge (pc := 43) C 55 (by decide) dX3_between_43 (fun c_43 => ?_) (fun c_43 => ?_)
            · exact absurd c_43 (nI_ge (show v * 6 + w < 36 by omega) (by omega))
            · refine g_aload_n (pc := 46) C 1 rfl rfl dX3_between_46 ?_
              refine g_get (pc := 47) C (T := TX3) inX3 0 rfl rfl 0 (by decide) q_11 rfl rfl dX3_between_47 ?_
              refine g_iload_n (pc := 50) C 0 rfl rfl dX3_between_50 ?_
              refine g_iald_n (pc := 51) C (j := (v * 6 + w)) 1 rfl (by omega) (by first | decide | omega) rfl dX3_between_51 ?_
              refine g_goto (pc := 52) C 56 (by decide) dX3_between_52 ?_
              exact g_iret (pc := 56) C hr hlk (by first | decide | omega) (by first | decide | omega) (by first | decide | omega) dX3_between_56 ⟨rfl, rfl⟩
        · exact absurd (nI_lt hw (by omega)) c_21
set_option maxRecDepth 100000 in
set_option maxHeartbeats 400000 in
theorem c_X3_degreeOf {l : Launch} {D : va_G} {k : Nat → ClassId} (h : Nat) (jj : Nat) (dd : Nat) (n : Nat) (z : Nat) (fj : Nat → Int32) (fd : Nat → Int32) (v : Nat) (hv : v < 6) : CM l D k yX3_degreeOf cX3_degreeOf 2 (some .int)  0 0 [.ref h, .int (nI v)] [(h, .inr (7, [.ref jj, .ref dd, .int (nI n), .int (nI z)])), (jj, aI k 36 fj), (dd, aI k 6 fd)] (is1 (some (.int (fd v))) [(h, .inr (7, [.ref jj, .ref dd, .int (nI n), .int (nI z)])), (jj, aI k 36 fj), (dd, aI k 6 fd)]) 0 0 0 := by
  refine CM.of (lv0 := [(0, .ref h), (1, .int (nI v))]) (by decide +kernel) (Nat.le_of_ble_eq_true rfl) rfl ?_
  intro p e s m below meth c C hr hlk hin had
  refine g_iload_n (pc := 0) C 1 rfl rfl dX3_degreeOf_0 ?_
  refine g_if_lt (pc := 1) C 22 (by decide) dX3_degreeOf_1 (fun c_1 => ?_) (fun c_1 => ?_)
  · exact absurd c_1 (nI_pos (by omega))
  · refine g_iload_n (pc := 4) C 1 rfl rfl dX3_degreeOf_4 ?_
    refine g_aload_n (pc := 5) C 0 rfl rfl dX3_degreeOf_5 ?_
    refine g_get (pc := 6) C (T := TX3) inX3 0 rfl rfl 1 (by decide) q_12 rfl rfl dX3_degreeOf_6 ?_
    refine g_alen (pc := 9) C 2 rfl (t0 := 0) rfl (v := (nI 6)) rfl dX3_degreeOf_9 ?_
    refine g_icmp_ge (pc := 10) C 22 (by decide) dX3_degreeOf_10 (fun c_10 => ?_) (fun c_10 => ?_)
    · exact absurd c_10 (nI_ge hv (by omega))
    · refine g_aload_n (pc := 13) C 0 rfl rfl dX3_degreeOf_13 ?_
      refine g_get (pc := 14) C (T := TX3) inX3 0 rfl rfl 1 (by decide) q_12 rfl rfl dX3_degreeOf_14 ?_
      refine g_iload_n (pc := 17) C 1 rfl rfl dX3_degreeOf_17 ?_
      refine g_iald_n (pc := 18) C (j := v) 2 rfl (by omega) (by first | decide | omega) rfl dX3_degreeOf_18 ?_
      refine g_goto (pc := 19) C 23 (by decide) dX3_degreeOf_19 ?_
      exact g_iret (pc := 23) C hr hlk (by first | decide | omega) (by first | decide | omega) (by first | decide | omega) dX3_degreeOf_23 ⟨rfl, rfl⟩
set_option maxRecDepth 100000 in
set_option maxHeartbeats 400000 in
theorem c_X3_joinOneWay {l : Launch} {D : va_G} {k : Nat → ClassId} (h : Nat) (jj : Nat) (dd : Nat) (n : Nat) (z : Nat) (fj : Nat → Int32) (fd : Nat → Int32) (v : Nat) (w : Nat) (x : Int32) (hn : n ≤ 6) (hv : v < n) (hw : w < n) : CM l D k yX3_joinOneWay cX3_joinOneWay 5 none  0 0 [.ref h, .int (nI v), .int (nI w), .int x] [(h, .inr (7, [.ref jj, .ref dd, .int (nI n), .int (nI z)])), (jj, aI k 36 fj), (dd, aI k 6 fd)] (is1 none [(h, .inr (7, [.ref jj, .ref dd, .int (nI n), .int (nI z)])), (jj, aI k 36 (upd fj (v * 6 + w) x)), (dd, aI k 6 (upd fd v (fd v + (x - fj (v * 6 + w)))))]) 0 0 0 := by
  refine CM.of (lv0 := [(0, .ref h), (1, .int (nI v)), (2, .int (nI w)), (3, .int x)]) (by decide +kernel) (Nat.le_of_ble_eq_true rfl) rfl ?_
  intro p e s m below meth c C hr hlk hin had
  refine g_iload_n (pc := 0) C 1 rfl rfl dX3_joinOneWay_0 ?_
  refine g_if_lt (pc := 1) C 24 (by decide) dX3_joinOneWay_1 (fun c_1 => ?_) (fun c_1 => ?_)
  · exact absurd c_1 (nI_pos (by omega))
  · refine g_iload_n (pc := 4) C 1 rfl rfl dX3_joinOneWay_4 ?_
    refine g_aload_n (pc := 5) C 0 rfl rfl dX3_joinOneWay_5 ?_
    refine g_get (pc := 6) C (T := TX3) inX3 0 rfl rfl 2 (by decide) q_13 rfl rfl dX3_joinOneWay_6 ?_
    refine g_icmp_ge (pc := 9) C 24 (by decide) dX3_joinOneWay_9 (fun c_9 => ?_) (fun c_9 => ?_)
    · exact absurd c_9 (nI_ge hv (by omega))
    · refine g_iload_n (pc := 12) C 2 rfl rfl dX3_joinOneWay_12 ?_
      refine g_if_lt (pc := 13) C 24 (by decide) dX3_joinOneWay_13 (fun c_13 => ?_) (fun c_13 => ?_)
      · exact absurd c_13 (nI_pos (by omega))
      · refine g_iload_n (pc := 16) C 2 rfl rfl dX3_joinOneWay_16 ?_
        refine g_aload_n (pc := 17) C 0 rfl rfl dX3_joinOneWay_17 ?_
        refine g_get (pc := 18) C (T := TX3) inX3 0 rfl rfl 2 (by decide) q_13 rfl rfl dX3_joinOneWay_18 ?_
        refine g_icmp_lt (pc := 21) C 25 (by decide) dX3_joinOneWay_21 (fun c_21 => ?_) (fun c_21 => ?_)
        · refine g_iload_n (pc := 25) C 1 rfl rfl dX3_joinOneWay_25 ?_
          refine g_bipush (pc := 26) (v := 6) C (by decide) dX3_joinOneWay_26 ?_
          refine g_imul (pc := 28) C dX3_joinOneWay_28 ?_
          refine g_iload_n (pc := 29) C 2 rfl rfl dX3_joinOneWay_29 ?_
          refine g_iadd (pc := 30) C dX3_joinOneWay_30 ?_
          refine G.eqs (st' := [.int (nI (v * 6 + w))]) (congrArg (β := List Value) (fun z9 => [.int z9]) (show ((((nI v) * 6) + (nI w)) : Int32) = (nI (v * 6 + w)) from by rw [show (6 : Int32) = nI 6 from rfl, pk_mul, nI_add])) ?_
          refine g_istore (pc := 31) C [(4, .int (nI (v * 6 + w))), (0, .ref h), (1, .int (nI v)), (2, .int (nI w)), (3, .int x)] dX3_joinOneWay_31 (by decide) rfl ?_
          refine g_iload (pc := 33) C 0 rfl dX3_joinOneWay_33 ?_
          refine g_if_lt (pc := 35) C 83 (by decide) dX3_joinOneWay_35 (fun c_35 => ?_) (fun c_35 => ?_)
          · exact absurd c_35 (nI_pos (by omega))
          · refine g_iload (pc := 38) C 0 rfl dX3_joinOneWay_38 ?_
            refine g_aload_n (pc := 40) C 1 rfl rfl dX3_joinOneWay_40 ?_
            refine g_get (pc := 41) C (T := TX3) inX3 0 rfl rfl 0 (by decide) q_11 rfl rfl dX3_joinOneWay_41 ?_
            refine g_alen (pc := 44) C 1 rfl (t0 := 0) rfl (v := (nI 36)) rfl dX3_joinOneWay_44 ?_
            refine g_icmp_ge (pc := 45) C 83 (by decide) dX3_joinOneWay_45 (fun c_45 => ?_) (fun c_45 => ?_)
            · exact absurd c_45 (nI_ge (show v * 6 + w < 36 by omega) (by omega))
            · refine g_iload_n (pc := 48) C 2 rfl rfl dX3_joinOneWay_48 ?_
              refine g_aload_n (pc := 49) C 1 rfl rfl dX3_joinOneWay_49 ?_
              refine g_get (pc := 50) C (T := TX3) inX3 0 rfl rfl 1 (by decide) q_12 rfl rfl dX3_joinOneWay_50 ?_
              refine g_alen (pc := 53) C 2 rfl (t0 := 0) rfl (v := (nI 6)) rfl dX3_joinOneWay_53 ?_
              refine g_icmp_ge (pc := 54) C 83 (by decide) dX3_joinOneWay_54 (fun c_54 => ?_) (fun c_54 => ?_)
              · exact absurd c_54 (nI_ge (show v < 6 by omega) (by omega))
              · refine g_aload_n (pc := 57) C 1 rfl rfl dX3_joinOneWay_57 ?_
                refine g_get (pc := 58) C (T := TX3) inX3 0 rfl rfl 1 (by decide) q_12 rfl rfl dX3_joinOneWay_58 ?_
                refine g_iload_n (pc := 61) C 2 rfl rfl dX3_joinOneWay_61 ?_
                refine g_dup2 (pc := 62) C rfl rfl dX3_joinOneWay_62 ?_
                refine g_iald_n (pc := 63) C (j := v) 2 rfl (by omega) (by first | decide | omega) rfl dX3_joinOneWay_63 ?_
                refine g_iload_n (pc := 64) C 4 rfl rfl dX3_joinOneWay_64 ?_
                refine g_aload_n (pc := 65) C 1 rfl rfl dX3_joinOneWay_65 ?_
                refine g_get (pc := 66) C (T := TX3) inX3 0 rfl rfl 0 (by decide) q_11 rfl rfl dX3_joinOneWay_66 ?_
                refine g_iload (pc := 69) C 0 rfl dX3_joinOneWay_69 ?_
                refine g_iald_n (pc := 71) C (j := (v * 6 + w)) 1 rfl (by omega) (by first | decide | omega) rfl dX3_joinOneWay_71 ?_
                refine g_isub (pc := 72) C dX3_joinOneWay_72 ?_
                refine g_iadd (pc := 73) C dX3_joinOneWay_73 ?_
                refine g_iast_n (pc := 74) C (j := v) 2 [(h, .inr (7, [.ref jj, .ref dd, .int (nI n), .int (nI z)])), (jj, aI k 36 fj), (dd, aI k 6 (upd fd v ((fd v) + (x - (fj (v * 6 + w))))))] rfl (by omega) (by first | decide | omega) rfl rfl dX3_joinOneWay_74 ?_
                refine g_aload_n (pc := 75) C 1 rfl rfl dX3_joinOneWay_75 ?_
                refine g_get (pc := 76) C (T := TX3) inX3 0 rfl rfl 0 (by decide) q_11 rfl rfl dX3_joinOneWay_76 ?_
                refine g_iload (pc := 79) C 0 rfl dX3_joinOneWay_79 ?_
                refine g_iload_n (pc := 81) C 4 rfl rfl dX3_joinOneWay_81 ?_
                refine g_iast_n (pc := 82) C (j := (v * 6 + w)) 1 [(h, .inr (7, [.ref jj, .ref dd, .int (nI n), .int (nI z)])), (jj, aI k 36 (upd fj (v * 6 + w) x)), (dd, aI k 6 (upd fd v ((fd v) + (x - (fj (v * 6 + w))))))] rfl (by omega) (by first | decide | omega) rfl rfl dX3_joinOneWay_82 ?_
                exact g_vret (pc := 83) C hr hlk (by first | decide | omega) (by first | decide | omega) (by first | decide | omega) dX3_joinOneWay_83 ⟨rfl, rfl⟩
        · exact absurd (nI_lt hw (by omega)) c_21
/-- one way, then the other -/
def jnJ (fj : Nat → Int32) (v w : Nat) (x : Int32) : Nat → Int32 := upd (upd fj (v * 6 + w) x) (w * 6 + v) x
def jnD (fj fd : Nat → Int32) (v w : Nat) (x : Int32) : Nat → Int32 := upd (upd fd v (fd v + (x - fj (v * 6 + w)))) w (upd fd v (fd v + (x - fj (v * 6 + w))) w + (x - upd fj (v * 6 + w) x (w * 6 + v)))
set_option maxRecDepth 100000 in
set_option maxHeartbeats 400000 in
theorem c_X3_join {l : Launch} {D : va_G} {k : Nat → ClassId} (h : Nat) (jj : Nat) (dd : Nat) (n : Nat) (z : Nat) (fj : Nat → Int32) (fd : Nat → Int32) (v : Nat) (w : Nat) (x : Int32) (hn : n ≤ 6) (hv : v < n) (hw : w < n) : CM l D k yX3_join cX3_join 4 none  1 24 [.ref h, .int (nI v), .int (nI w), .int x] [(h, .inr (7, [.ref jj, .ref dd, .int (nI n), .int (nI z)])), (jj, aI k 36 fj), (dd, aI k 6 fd)] (is1 none [(h, .inr (7, [.ref jj, .ref dd, .int (nI n), .int (nI z)])), (jj, aI k 36 (jnJ fj v w x)), (dd, aI k 6 (jnD fj fd v w x))]) 0 0 0 := by
  refine CM.of (lv0 := [(0, .ref h), (1, .int (nI v)), (2, .int (nI w)), (3, .int x)]) (by decide +kernel) (Nat.le_of_ble_eq_true rfl) rfl ?_
  intro p e s m below meth c C hr hlk hin had
  refine g_aload_n (pc := 0) C 0 rfl rfl dX3_join_0 ?_
  refine g_iload_n (pc := 1) C 1 rfl rfl dX3_join_1 ?_
  refine g_iload_n (pc := 2) C 2 rfl rfl dX3_join_2 ?_
  refine g_iload_n (pc := 3) C 3 rfl rfl dX3_join_3 ?_
  refine g_callV (pc := 4) (cells := 0) (slots := 0) (g := 0) (As := [.int (nI v), .int (nI w), .int x]) (st := []) (T := TX3) (q0 := 0) C (nA := 3) rfl (c_X3_joinOneWay h jj dd n z fj fd v w x (by first | assumption | decide | omega) (by first | assumption | decide | omega) (by first | assumption | decide | omega)) q_18 q_19 q_17 q_16 q_15 (by decide +kernel) rfl rfl dX3_join_4 ⟨Nat.le_of_ble_eq_true rfl, Nat.le_of_ble_eq_true rfl⟩ [0, 1, 2] [] rfl (wr := []) rfl (by decide) (by decide) (by decide) (Nat.le_of_ble_eq_true rfl) ⟨Nat.le_of_ble_eq_true rfl, Nat.le_of_ble_eq_true rfl⟩ (fun rv w1 h1 => ?_)
  obtain ⟨rfl, rfl⟩ := h1
  refine G.aft [0, 1, 2] (ws' := [(h, .inr (7, [.ref jj, .ref dd, .int (nI n), .int (nI z)])), (jj, aI k 36 (upd fj (v * 6 + w) x)), (dd, aI k 6 (upd fd v (fd v + (x - fj (v * 6 + w)))))]) (st' := []) (cells' := 0) (slots' := 0) (g' := 0) (by decide) rfl rfl rfl rfl rfl ?_
  refine g_aload_n (pc := 7) C 0 rfl rfl dX3_join_7 ?_
  refine g_iload_n (pc := 8) C 2 rfl rfl dX3_join_8 ?_
  refine g_iload_n (pc := 9) C 1 rfl rfl dX3_join_9 ?_
  refine g_iload_n (pc := 10) C 3 rfl rfl dX3_join_10 ?_
  refine g_callV (pc := 11) (cells := 0) (slots := 0) (g := 0) (As := [.int (nI w), .int (nI v), .int x]) (st := []) (T := TX3) (q0 := 0) C (nA := 3) rfl (c_X3_joinOneWay h jj dd n z (upd fj (v * 6 + w) x) (upd fd v (fd v + (x - fj (v * 6 + w)))) w v x (by first | assumption | decide | omega) (by first | assumption | decide | omega) (by first | assumption | decide | omega)) q_18 q_19 q_17 q_16 q_15 (by decide +kernel) rfl rfl dX3_join_11 ⟨Nat.le_of_ble_eq_true rfl, Nat.le_of_ble_eq_true rfl⟩ [0, 1, 2] [] rfl (wr := []) rfl (by decide) (by decide) (by decide) (Nat.le_of_ble_eq_true rfl) ⟨Nat.le_of_ble_eq_true rfl, Nat.le_of_ble_eq_true rfl⟩ (fun rv w1 h1 => ?_)
  obtain ⟨rfl, rfl⟩ := h1
  refine G.aft [0, 1, 2] (ws' := [(h, .inr (7, [.ref jj, .ref dd, .int (nI n), .int (nI z)])), (jj, aI k 36 (upd (upd fj (v * 6 + w) x) (w * 6 + v) x)), (dd, aI k 6 (upd (upd fd v (fd v + (x - fj (v * 6 + w)))) w ((upd fd v (fd v + (x - fj (v * 6 + w)))) w + (x - (upd fj (v * 6 + w) x) (w * 6 + v)))))]) (st' := []) (cells' := 0) (slots' := 0) (g' := 0) (by decide) rfl rfl rfl rfl rfl ?_
  refine G.fn (jnJ fj v w x) 1 [(h, .inr (7, [.ref jj, .ref dd, .int (nI n), .int (nI z)])), (jj, aI k 36 (jnJ fj v w x)), (dd, aI k 6 (upd (upd fd v (fd v + (x - fj (v * 6 + w)))) w ((upd fd v (fd v + (x - fj (v * 6 + w)))) w + (x - (upd fj (v * 6 + w) x) (w * 6 + v)))))] rfl (fun j hj => by rfl) rfl ?_
  refine G.fn (jnD fj fd v w x) 2 [(h, .inr (7, [.ref jj, .ref dd, .int (nI n), .int (nI z)])), (jj, aI k 36 (jnJ fj v w x)), (dd, aI k 6 (jnD fj fd v w x))] rfl (fun j hj => by rfl) rfl ?_
  exact g_vret (pc := 14) C hr hlk (by first | decide | omega) (by first | decide | omega) (by first | decide | omega) dX3_join_14 ⟨rfl, rfl⟩
/-- the neighbours in a row of bits: of v up to w; of all up to v -/
def nbI (fj : Nat → Int32) (S : Int32) (v : Nat) (acc : Int32) : Nat → Int32
  | 0 => acc
  | w + 1 => if ((S >>> (nI v &&& 31)) &&& 1) = 1 ∧ ¬ fj (v * 6 + w) ≤ 0 then nbI fj S v acc w ||| (1 <<< (nI w &&& 31)) else nbI fj S v acc w
def nbO (fj : Nat → Int32) (n : Nat) (S : Int32) : Nat → Int32
  | 0 => 0
  | v + 1 => nbI fj S v (nbO fj n S v) n
set_option maxRecDepth 100000 in
set_option maxHeartbeats 400000 in
theorem c_X3_neighboursOf {l : Launch} {D : va_G} {k : Nat → ClassId} (h : Nat) (jj : Nat) (dd : Nat) (n : Nat) (z : Nat) (fj : Nat → Int32) (fd : Nat → Int32) (S : Int32) (hn : n ≤ 6) : CM l D k yX3_neighboursOf cX3_neighboursOf 5 (some .int)  1 23 [.ref h, .int S] [(h, .inr (7, [.ref jj, .ref dd, .int (nI n), .int (nI z)])), (jj, aI k 36 fj), (dd, aI k 6 fd)] (is1 (some (.int (nbO fj n S n))) [(h, .inr (7, [.ref jj, .ref dd, .int (nI n), .int (nI z)])), (jj, aI k 36 fj), (dd, aI k 6 fd)]) 0 0 0 := by
  refine CM.of (lv0 := [(0, .ref h), (1, .int S)]) (by decide +kernel) (Nat.le_of_ble_eq_true rfl) rfl ?_
  intro p e s m below meth c C hr hlk hin had
  refine g_iconst (pc := 0) (v := 0) C (by decide) dX3_neighboursOf_0 ?_
  refine g_istore_n (pc := 1) C [(2, .int 0), (0, .ref h), (1, .int S)] rfl dX3_neighboursOf_1 (by decide) rfl ?_
  refine g_iconst (pc := 2) (v := 0) C (by decide) dX3_neighboursOf_2 ?_
  refine g_istore_n (pc := 3) C [(3, .int 0), (2, .int 0), (0, .ref h), (1, .int S)] rfl dX3_neighboursOf_3 (by decide) rfl ?_
  have key_4 : ∀ (fuel : Nat) (i : Nat), i ≤ n → n - i < fuel → G p l e { frames := 1, cells := 0, slots := 0, locals := 23 } s m ([.ref h, .int S] : List Value).toArray below meth c D 5 (va_A [(h, .inr (7, [.ref jj, .ref dd, .int (nI n), .int (nI z)])), (jj, aI k 36 fj), (dd, aI k 6 fd)] s.heap.size) (QM below D ([.ref h, .int S] : List Value).toArray s [(h, .inr (7, [.ref jj, .ref dd, .int (nI n), .int (nI z)])), (jj, aI k 36 fj), (dd, aI k 6 fd)] (is1 (some (.int (nbO fj n S n))) [(h, .inr (7, [.ref jj, .ref dd, .int (nI n), .int (nI z)])), (jj, aI k 36 fj), (dd, aI k 6 fd)]) 0 0 0) [(h, .inr (7, [.ref jj, .ref dd, .int (nI n), .int (nI z)])), (jj, aI k 36 fj), (dd, aI k 6 fd)] [(0, .ref h), (1, .int S), (2, .int (nbO fj n S i)), (3, .int (nI i))] 0 0 0 4 [] := by
    intro fuel
    induction fuel with
    | zero => intro i hi hm; exact absurd hm (Nat.not_lt_zero _)
    | succ fuel ih =>
      intro i hi hm
      have ih_4 := ih
      refine g_iload_n (pc := 4) C 3 rfl rfl dX3_neighboursOf_4 ?_
      refine g_aload_n (pc := 5) C 0 rfl rfl dX3_neighboursOf_5 ?_
      refine g_get (pc := 6) C (T := TX3) inX3 0 rfl rfl 2 (by decide) q_13 rfl rfl dX3_neighboursOf_6 ?_
      refine g_icmp_ge (pc := 9) C 62 (by decide) dX3_neighboursOf_9 (fun c_9 => ?_) (fun c_9 => ?_)
      · refine g_iload_n (pc := 62) C 2 rfl rfl dX3_neighboursOf_62 ?_
        refine G.eqs (st' := [.int (nbO fj n S n)]) (congrArg (fun z9 => [Value.int z9]) (show ((nbO fj n S i) : Int32) = (nbO fj n S n) from by { have h3 : i = n := (by { rcases Nat.lt_or_ge i n with q | q; exact absurd c_9 (nI_ge q (by omega)); omega }); rw [h3] })) ?_
        exact g_iret (pc := 63) C hr hlk (by first | decide | omega) (by first | decide | omega) (by first | decide | omega) dX3_neighboursOf_63 ⟨rfl, rfl⟩
      · have hl9 : i < n := by rcases Nat.lt_or_ge i n with q | q; exact q; exact absurd (nI_le q (by omega)) c_9
        refine g_iconst (pc := 12) (v := 0) C (by decide) dX3_neighboursOf_12 ?_
        refine g_istore (pc := 13) C [(4, .int 0), (0, .ref h), (1, .int S), (2, .int (nbO fj n S i)), (3, .int (nI i))] dX3_neighboursOf_13 (by decide) rfl ?_
        have key_15 : ∀ (fuel : Nat) (w : Nat), w ≤ n → n - w < fuel → G p l e { frames := 1, cells := 0, slots := 0, locals := 23 } s m ([.ref h, .int S] : List Value).toArray below meth c D 5 (va_A [(h, .inr (7, [.ref jj, .ref dd, .int (nI n), .int (nI z)])), (jj, aI k 36 fj), (dd, aI k 6 fd)] s.heap.size) (QM below D ([.ref h, .int S] : List Value).toArray s [(h, .inr (7, [.ref jj, .ref dd, .int (nI n), .int (nI z)])), (jj, aI k 36 fj), (dd, aI k 6 fd)] (is1 (some (.int (nbO fj n S n))) [(h, .inr (7, [.ref jj, .ref dd, .int (nI n), .int (nI z)])), (jj, aI k 36 fj), (dd, aI k 6 fd)]) 0 0 0) [(h, .inr (7, [.ref jj, .ref dd, .int (nI n), .int (nI z)])), (jj, aI k 36 fj), (dd, aI k 6 fd)] [(0, .ref h), (1, .int S), (2, .int (nbI fj S i (nbO fj n S i) w)), (3, .int (nI i)), (4, .int (nI w))] 0 0 0 15 [] := by
          intro fuel
          induction fuel with
          | zero => intro w hw hm; exact absurd hm (Nat.not_lt_zero _)
          | succ fuel ih =>
            intro w hw hm
            have ih_15 := ih
            refine g_iload (pc := 15) C 4 rfl dX3_neighboursOf_15 ?_
            refine g_aload_n (pc := 17) C 0 rfl rfl dX3_neighboursOf_17 ?_
            refine g_get (pc := 18) C (T := TX3) inX3 0 rfl rfl 2 (by decide) q_13 rfl rfl dX3_neighboursOf_18 ?_
            refine g_icmp_ge (pc := 21) C 56 (by decide) dX3_neighboursOf_21 (fun c_21 => ?_) (fun c_21 => ?_)
            · refine g_iinc (pc := 56) (n := 1) (v := (nI (i + 1))) C 3 [(3, .int (nI (i + 1))), (0, .ref h), (1, .int S), (2, .int (nbI fj S i (nbO fj n S i) w)), (4, .int (nI w))] rfl (nI_1 i) dX3_neighboursOf_56 (by decide) rfl ?_
              refine g_goto (pc := 59) C 4 (by decide) dX3_neighboursOf_59 ?_
              refine G.loc [1, 2, 3, 0] (lv' := [(0, .ref h), (1, .int S), (2, .int (nbI fj S i (nbO fj n S i) w)), (3, .int (nI (i + 1)))]) rfl ?_
              refine G.eql (lv' := [(0, .ref h), (1, .int S), (2, .int (nbO fj n S (i + 1))), (3, .int (nI (i + 1)))]) (congrArg (β := List (Nat × Value)) (fun z9 => [(0, .ref h), (1, .int S), (2, .int z9), (3, .int (nI (i + 1)))]) (show ((nbI fj S i (nbO fj n S i) w) : Int32) = (nbO fj n S (i + 1)) from by { have h3 : w = n := (by { rcases Nat.lt_or_ge w n with q | q; exact absurd c_21 (nI_ge q (by omega)); omega }); subst h3; rfl })) ?_
              exact ih_4 (i + 1) (by omega) (by omega)
            · have hl21 : w < n := by rcases Nat.lt_or_ge w n with q | q; exact q; exact absurd (nI_le q (by omega)) c_21
              refine g_iload_n (pc := 24) C 1 rfl rfl dX3_neighboursOf_24 ?_
              refine g_iload_n (pc := 25) C 3 rfl rfl dX3_neighboursOf_25 ?_
              refine g_ishr (pc := 26) C dX3_neighboursOf_26 ?_
              refine g_iconst (pc := 27) (v := 1) C (by decide) dX3_neighboursOf_27 ?_
              refine g_iand (pc := 28) C dX3_neighboursOf_28 ?_
              refine g_iconst (pc := 29) (v := 1) C (by decide) dX3_neighboursOf_29 ?_
              refine g_icmp_ne (pc := 30) C 50 (by decide) dX3_neighboursOf_30 (fun c_30 => ?_) (fun c_30 => ?_)
              · refine g_iinc (pc := 50) (n := 1) (v := (nI (w + 1))) C 4 [(4, .int (nI (w + 1))), (0, .ref h), (1, .int S), (2, .int (nbI fj S i (nbO fj n S i) w)), (3, .int (nI i))] rfl (nI_1 w) dX3_neighboursOf_50 (by decide) rfl ?_
                refine g_goto (pc := 53) C 15 (by decide) dX3_neighboursOf_53 ?_
                refine G.loc [1, 2, 3, 4, 0] (lv' := [(0, .ref h), (1, .int S), (2, .int (nbI fj S i (nbO fj n S i) w)), (3, .int (nI i)), (4, .int (nI (w + 1)))]) rfl ?_
                refine G.eql (lv' := [(0, .ref h), (1, .int S), (2, .int (nbI fj S i (nbO fj n S i) (w + 1))), (3, .int (nI i)), (4, .int (nI (w + 1)))]) (congrArg (β := List (Nat × Value)) (fun z9 => [(0, .ref h), (1, .int S), (2, .int z9), (3, .int (nI i)), (4, .int (nI (w + 1)))]) (show ((nbI fj S i (nbO fj n S i) w) : Int32) = (nbI fj S i (nbO fj n S i) (w + 1)) from by simp [nbI, *])) ?_
                exact ih_15 (w + 1) (by omega) (by omega)
              · refine g_aload_n (pc := 33) C 0 rfl rfl dX3_neighboursOf_33 ?_
                refine g_iload_n (pc := 34) C 3 rfl rfl dX3_neighboursOf_34 ?_
                refine g_iload (pc := 35) C 4 rfl dX3_neighboursOf_35 ?_
                refine g_callV (pc := 37) (cells := 0) (slots := 0) (g := 0) (As := [.int (nI i), .int (nI w)]) (st := []) (T := TX3) (q0 := 0) C (nA := 2) rfl (c_X3_between h jj dd n z fj fd i w (by first | assumption | decide | omega) (by first | assumption | decide | omega) (by first | assumption | decide | omega)) q_22 q_23 q_21 q_16 q_20 (by decide +kernel) rfl rfl dX3_neighboursOf_37 ⟨Nat.le_of_ble_eq_true rfl, Nat.le_of_ble_eq_true rfl⟩ [0, 1, 2] [] rfl (wr := []) rfl (by decide) (by decide) (by decide) (Nat.le_of_ble_eq_true rfl) ⟨Nat.le_of_ble_eq_true rfl, Nat.le_of_ble_eq_true rfl⟩ (fun rv w1 h1 => ?_)
                obtain ⟨rfl, rfl⟩ := h1
                refine G.aft [0, 1, 2] (ws' := [(h, .inr (7, [.ref jj, .ref dd, .int (nI n), .int (nI z)])), (jj, aI k 36 fj), (dd, aI k 6 fd)]) (st' := [.int (fj (i * 6 + w))]) (cells' := 0) (slots' := 0) (g' := 0) (by decide) rfl rfl rfl rfl rfl ?_
                refine g_if_le (pc := 40) C 50 (by decide) dX3_neighboursOf_40 (fun c_40 => ?_) (fun c_40 => ?_)
                · refine g_iinc (pc := 50) (n := 1) (v := (nI (w + 1))) C 4 [(4, .int (nI (w + 1))), (0, .ref h), (1, .int S), (2, .int (nbI fj S i (nbO fj n S i) w)), (3, .int (nI i))] rfl (nI_1 w) dX3_neighboursOf_50 (by decide) rfl ?_
                  refine g_goto (pc := 53) C 15 (by decide) dX3_neighboursOf_53 ?_
                  refine G.loc [1, 2, 3, 4, 0] (lv' := [(0, .ref h), (1, .int S), (2, .int (nbI fj S i (nbO fj n S i) w)), (3, .int (nI i)), (4, .int (nI (w + 1)))]) rfl ?_
                  refine G.eql (lv' := [(0, .ref h), (1, .int S), (2, .int (nbI fj S i (nbO fj n S i) (w + 1))), (3, .int (nI i)), (4, .int (nI (w + 1)))]) (congrArg (β := List (Nat × Value)) (fun z9 => [(0, .ref h), (1, .int S), (2, .int z9), (3, .int (nI i)), (4, .int (nI (w + 1)))]) (show ((nbI fj S i (nbO fj n S i) w) : Int32) = (nbI fj S i (nbO fj n S i) (w + 1)) from by simp [nbI, *])) ?_
                  exact ih_15 (w + 1) (by omega) (by omega)
                · refine g_iload_n (pc := 43) C 2 rfl rfl dX3_neighboursOf_43 ?_
                  refine g_iconst (pc := 44) (v := 1) C (by decide) dX3_neighboursOf_44 ?_
                  refine g_iload (pc := 45) C 4 rfl dX3_neighboursOf_45 ?_
                  refine g_ishl (pc := 47) C dX3_neighboursOf_47 ?_
                  refine g_ior (pc := 48) C dX3_neighboursOf_48 ?_
                  refine g_istore_n (pc := 49) C [(2, .int ((nbI fj S i (nbO fj n S i) w) ||| (1 <<< ((nI w) &&& 31)))), (0, .ref h), (1, .int S), (3, .int (nI i)), (4, .int (nI w))] rfl dX3_neighboursOf_49 (by decide) rfl ?_
                  refine g_iinc (pc := 50) (n := 1) (v := (nI (w + 1))) C 4 [(4, .int (nI (w + 1))), (2, .int ((nbI fj S i (nbO fj n S i) w) ||| (1 <<< ((nI w) &&& 31)))), (0, .ref h), (1, .int S), (3, .int (nI i))] rfl (nI_1 w) dX3_neighboursOf_50 (by decide) rfl ?_
                  refine g_goto (pc := 53) C 15 (by decide) dX3_neighboursOf_53 ?_
                  refine G.loc [2, 3, 1, 4, 0] (lv' := [(0, .ref h), (1, .int S), (2, .int ((nbI fj S i (nbO fj n S i) w) ||| (1 <<< ((nI w) &&& 31)))), (3, .int (nI i)), (4, .int (nI (w + 1)))]) rfl ?_
                  refine G.eql (lv' := [(0, .ref h), (1, .int S), (2, .int (nbI fj S i (nbO fj n S i) (w + 1))), (3, .int (nI i)), (4, .int (nI (w + 1)))]) (congrArg (β := List (Nat × Value)) (fun z9 => [(0, .ref h), (1, .int S), (2, .int z9), (3, .int (nI i)), (4, .int (nI (w + 1)))]) (show (((nbI fj S i (nbO fj n S i) w) ||| (1 <<< ((nI w) &&& 31))) : Int32) = (nbI fj S i (nbO fj n S i) (w + 1)) from by simp [nbI, *])) ?_
                  exact ih_15 (w + 1) (by omega) (by omega)
        refine G.loc [1, 2, 3, 4, 0] (lv' := [(0, .ref h), (1, .int S), (2, .int (nbO fj n S i)), (3, .int (nI i)), (4, .int 0)]) rfl ?_
        refine G.eql (lv' := [(0, .ref h), (1, .int S), (2, .int (nbI fj S i (nbO fj n S i) 0)), (3, .int (nI i)), (4, .int (nI 0))]) ((congrArg (β := List (Nat × Value)) (fun z9 => [(0, .ref h), (1, .int S), (2, .int z9), (3, .int (nI i)), (4, .int 0)]) (show ((nbO fj n S i) : Int32) = (nbI fj S i (nbO fj n S i) 0) from by first | rfl | exact nI_0.symm)).trans (congrArg (β := List (Nat × Value)) (fun z9 => [(0, .ref h), (1, .int S), (2, .int (nbI fj S i (nbO fj n S i) 0)), (3, .int (nI i)), (4, .int z9)]) (show (0 : Int32) = (nI 0) from by first | rfl | exact nI_0.symm))) ?_
        exact key_15 (n - 0 + 1) 0 (by omega) (Nat.lt_succ_self _)
  refine G.loc [2, 3, 1, 0] (lv' := [(0, .ref h), (1, .int S), (2, .int 0), (3, .int 0)]) rfl ?_
  refine G.eql (lv' := [(0, .ref h), (1, .int S), (2, .int (nbO fj n S 0)), (3, .int (nI 0))]) ((congrArg (β := List (Nat × Value)) (fun z9 => [(0, .ref h), (1, .int S), (2, .int z9), (3, .int 0)]) (show (0 : Int32) = (nbO fj n S 0) from by first | rfl | exact nI_0.symm)).trans (congrArg (β := List (Nat × Value)) (fun z9 => [(0, .ref h), (1, .int S), (2, .int (nbO fj n S 0)), (3, .int z9)]) (show (0 : Int32) = (nI 0) from by first | rfl | exact nI_0.symm))) ?_
  exact key_4 (n - 0 + 1) 0 (by omega) (Nat.lt_succ_self _)
/-- what is reached from vertex 0 by so many rounds -/
def gRe (fj : Nat → Int32) (n : Nat) : Nat → Int32
  | 0 => 1
  | r + 1 => gRe fj n r ||| nbO fj n (gRe fj n r) n
def gConn (fj : Nat → Int32) (n : Nat) : Bool := decide (2 ≤ n) && decide (gRe fj n (n - 1) = (1 <<< (nI n &&& 31)) - 1)
set_option maxRecDepth 100000 in
set_option maxHeartbeats 400000 in
theorem c_X3_isConnected {l : Launch} {D : va_G} {k : Nat → ClassId} (h : Nat) (jj : Nat) (dd : Nat) (n : Nat) (z : Nat) (fj : Nat → Int32) (fd : Nat → Int32) (hn : n ≤ 6) : CM l D k yX3_isConnected cX3_isConnected 4 (some .boolean)  2 47 [.ref h] [(h, .inr (7, [.ref jj, .ref dd, .int (nI n), .int (nI z)])), (jj, aI k 36 fj), (dd, aI k 6 fd)] (is1 (some (.int (bI (gConn fj n)))) [(h, .inr (7, [.ref jj, .ref dd, .int (nI n), .int (nI z)])), (jj, aI k 36 fj), (dd, aI k 6 fd)]) 0 0 0 := by
  refine CM.of (lv0 := [(0, .ref h)]) (by decide +kernel) (Nat.le_of_ble_eq_true rfl) rfl ?_
  intro p e s m below meth c C hr hlk hin had
  refine g_aload_n (pc := 0) C 0 rfl rfl dX3_isConnected_0 ?_
  refine g_get (pc := 1) C (T := TX3) inX3 0 rfl rfl 2 (by decide) q_13 rfl rfl dX3_isConnected_1 ?_
  refine g_iconst (pc := 4) (v := 2) C (by decide) dX3_isConnected_4 ?_
  refine g_icmp_ge (pc := 5) C 10 (by decide) dX3_isConnected_5 (fun c_5 => ?_) (fun c_5 => ?_)
  · have h2 : 2 ≤ n := by { rcases Nat.lt_or_ge n 2 with q | q; exact absurd (show nI 2 ≤ nI n from c_5) (nI_ge q (by omega)); exact q }
    refine g_iconst (pc := 10) (v := 1) C (by decide) dX3_isConnected_10 ?_
    refine g_aload_n (pc := 11) C 0 rfl rfl dX3_isConnected_11 ?_
    refine g_get (pc := 12) C (T := TX3) inX3 0 rfl rfl 2 (by decide) q_13 rfl rfl dX3_isConnected_12 ?_
    refine g_ishl (pc := 15) C dX3_isConnected_15 ?_
    refine g_iconst (pc := 16) (v := 1) C (by decide) dX3_isConnected_16 ?_
    refine g_isub (pc := 17) C dX3_isConnected_17 ?_
    refine g_istore_n (pc := 18) C [(1, .int ((1 <<< ((nI n) &&& 31)) - 1)), (0, .ref h)] rfl dX3_isConnected_18 (by decide) rfl ?_
    refine g_iconst (pc := 19) (v := 1) C (by decide) dX3_isConnected_19 ?_
    refine g_istore_n (pc := 20) C [(2, .int 1), (1, .int ((1 <<< ((nI n) &&& 31)) - 1)), (0, .ref h)] rfl dX3_isConnected_20 (by decide) rfl ?_
    refine g_iconst (pc := 21) (v := 1) C (by decide) dX3_isConnected_21 ?_
    refine g_istore_n (pc := 22) C [(3, .int 1), (2, .int 1), (1, .int ((1 <<< ((nI n) &&& 31)) - 1)), (0, .ref h)] rfl dX3_isConnected_22 (by decide) rfl ?_
    have key_23 : ∀ (fuel : Nat) (r : Nat), r + 1 ≤ n → n - r < fuel → G p l e { frames := 2, cells := 0, slots := 0, locals := 47 } s m ([.ref h] : List Value).toArray below meth c D 4 (va_A [(h, .inr (7, [.ref jj, .ref dd, .int (nI n), .int (nI z)])), (jj, aI k 36 fj), (dd, aI k 6 fd)] s.heap.size) (QM below D ([.ref h] : List Value).toArray s [(h, .inr (7, [.ref jj, .ref dd, .int (nI n), .int (nI z)])), (jj, aI k 36 fj), (dd, aI k 6 fd)] (is1 (some (.int (bI (gConn fj n)))) [(h, .inr (7, [.ref jj, .ref dd, .int (nI n), .int (nI z)])), (jj, aI k 36 fj), (dd, aI k 6 fd)]) 0 0 0) [(h, .inr (7, [.ref jj, .ref dd, .int (nI n), .int (nI z)])), (jj, aI k 36 fj), (dd, aI k 6 fd)] [(0, .ref h), (1, .int ((1 <<< (nI n &&& 31)) - 1)), (2, .int (gRe fj n r)), (3, .int (nI (r + 1)))] 0 0 0 23 [] := by
      intro fuel
      induction fuel with
      | zero => intro r hr1 hm; exact absurd hm (Nat.not_lt_zero _)
      | succ fuel ih =>
        intro r hr1 hm
        have ih_23 := ih
        refine g_iload_n (pc := 23) C 3 rfl rfl dX3_isConnected_23 ?_
        refine g_aload_n (pc := 24) C 0 rfl rfl dX3_isConnected_24 ?_
        refine g_get (pc := 25) C (T := TX3) inX3 0 rfl rfl 2 (by decide) q_13 rfl rfl dX3_isConnected_25 ?_
        refine g_icmp_ge (pc := 28) C 45 (by decide) dX3_isConnected_28 (fun c_28 => ?_) (fun c_28 => ?_)
        · refine g_iload_n (pc := 45) C 2 rfl rfl dX3_isConnected_45 ?_
          refine g_iload_n (pc := 46) C 1 rfl rfl dX3_isConnected_46 ?_
          refine g_icmp_ne (pc := 47) C 54 (by decide) dX3_isConnected_47 (fun c_47 => ?_) (fun c_47 => ?_)
          · refine g_iconst (pc := 54) (v := 0) C (by decide) dX3_isConnected_54 ?_
            refine G.eqs (st' := [.int (bI (gConn fj n))]) (congrArg (fun z9 => [Value.int z9]) (show (0 : Int32) = (bI (gConn fj n)) from by { have h3 : r = n - 1 := (by { rcases Nat.lt_or_ge (r + 1) n with q | q; exact absurd c_28 (nI_ge q (by omega)); omega }); subst h3; simp [gConn, bI, h2, *] })) ?_
            exact g_zret (pc := 55) C hr (by first | rfl | exact bI_nar _) hlk (by first | decide | omega) (by first | decide | omega) (by first | decide | omega) dX3_isConnected_55 ⟨rfl, rfl⟩
          · refine g_iconst (pc := 50) (v := 1) C (by decide) dX3_isConnected_50 ?_
            refine g_goto (pc := 51) C 55 (by decide) dX3_isConnected_51 ?_
            refine G.eqs (st' := [.int (bI (gConn fj n))]) (congrArg (fun z9 => [Value.int z9]) (show (1 : Int32) = (bI (gConn fj n)) from by { have h3 : r = n - 1 := (by { rcases Nat.lt_or_ge (r + 1) n with q | q; exact absurd c_28 (nI_ge q (by omega)); omega }); subst h3; simp [gConn, bI, h2, *] })) ?_
            exact g_zret (pc := 55) C hr (by first | rfl | exact bI_nar _) hlk (by first | decide | omega) (by first | decide | omega) (by first | decide | omega) dX3_isConnected_55 ⟨rfl, rfl⟩
        · have hl28 : r + 1 < n := by rcases Nat.lt_or_ge (r + 1) n with q | q; exact q; exact absurd (nI_le q (by omega)) c_28
          refine g_iload_n (pc := 31) C 2 rfl rfl dX3_isConnected_31 ?_
          refine g_aload_n (pc := 32) C 0 rfl rfl dX3_isConnected_32 ?_
          refine g_iload_n (pc := 33) C 2 rfl rfl dX3_isConnected_33 ?_
          refine g_callV (pc := 34) (cells := 0) (slots := 0) (g := 0) (As := [.int (gRe fj n r)]) (st := [.int (gRe fj n r)]) (T := TX3) (q0 := 0) C (nA := 1) rfl (c_X3_neighboursOf h jj dd n z fj fd (gRe fj n r) (by first | assumption | decide | omega)) q_26 q_27 q_25 q_16 q_24 (by decide +kernel) rfl rfl dX3_isConnected_34 ⟨Nat.le_of_ble_eq_true rfl, Nat.le_of_ble_eq_true rfl⟩ [0, 1, 2] [] rfl (wr := []) rfl (by decide) (by decide) (by decide) (Nat.le_of_ble_eq_true rfl) ⟨Nat.le_of_ble_eq_true rfl, Nat.le_of_ble_eq_true rfl⟩ (fun rv w1 h1 => ?_)
          obtain ⟨rfl, rfl⟩ := h1
          refine G.aft [0, 1, 2] (ws' := [(h, .inr (7, [.ref jj, .ref dd, .int (nI n), .int (nI z)])), (jj, aI k 36 fj), (dd, aI k 6 fd)]) (st' := [.int (nbO fj n (gRe fj n r) n), .int (gRe fj n r)]) (cells' := 0) (slots' := 0) (g' := 0) (by decide) rfl rfl rfl rfl rfl ?_
          refine g_ior (pc := 37) C dX3_isConnected_37 ?_
          refine g_istore_n (pc := 38) C [(2, .int ((gRe fj n r) ||| (nbO fj n (gRe fj n r) n))), (0, .ref h), (1, .int ((1 <<< (nI n &&& 31)) - 1)), (3, .int (nI (r + 1)))] rfl dX3_isConnected_38 (by decide) rfl ?_
          refine g_iinc (pc := 39) (n := 1) (v := (nI ((r + 1) + 1))) C 3 [(3, .int (nI ((r + 1) + 1))), (2, .int ((gRe fj n r) ||| (nbO fj n (gRe fj n r) n))), (0, .ref h), (1, .int ((1 <<< (nI n &&& 31)) - 1))] rfl (nI_1 (r + 1)) dX3_isConnected_39 (by decide) rfl ?_
          refine g_goto (pc := 42) C 23 (by decide) dX3_isConnected_42 ?_
          refine G.loc [2, 3, 1, 0] (lv' := [(0, .ref h), (1, .int ((1 <<< (nI n &&& 31)) - 1)), (2, .int ((gRe fj n r) ||| (nbO fj n (gRe fj n r) n))), (3, .int (nI ((r + 1) + 1)))]) rfl ?_
          refine G.eql (lv' := [(0, .ref h), (1, .int ((1 <<< (nI n &&& 31)) - 1)), (2, .int (gRe fj n (r + 1))), (3, .int (nI ((r + 1) + 1)))]) (congrArg (β := List (Nat × Value)) (fun z9 => [(0, .ref h), (1, .int ((1 <<< (nI n &&& 31)) - 1)), (2, .int z9), (3, .int (nI ((r + 1) + 1)))]) (show (((gRe fj n r) ||| (nbO fj n (gRe fj n r) n)) : Int32) = (gRe fj n (r + 1)) from by rfl)) ?_
          exact ih_23 (r + 1) (by omega) (by omega)
    refine G.loc [3, 2, 1, 0] (lv' := [(0, .ref h), (1, .int ((1 <<< ((nI n) &&& 31)) - 1)), (2, .int 1), (3, .int 1)]) rfl ?_
    refine G.eql (lv' := [(0, .ref h), (1, .int ((1 <<< (nI n &&& 31)) - 1)), (2, .int (gRe fj n 0)), (3, .int (nI (0 + 1)))]) ((congrArg (β := List (Nat × Value)) (fun z9 => [(0, .ref h), (1, .int ((1 <<< ((nI n) &&& 31)) - 1)), (2, .int z9), (3, .int 1)]) (show (1 : Int32) = (gRe fj n 0) from by rfl)).trans (congrArg (β := List (Nat × Value)) (fun z9 => [(0, .ref h), (1, .int ((1 <<< ((nI n) &&& 31)) - 1)), (2, .int (gRe fj n 0)), (3, .int z9)]) (show (1 : Int32) = (nI (0 + 1)) from by rfl))) ?_
    exact key_23 (n - 0 + 1) 0 (by omega) (Nat.lt_succ_self _)
  · refine g_iconst (pc := 8) (v := 0) C (by decide) dX3_isConnected_8 ?_
    refine G.eqs (st' := [.int (bI (gConn fj n))]) (congrArg (fun z9 => [Value.int z9]) (show (0 : Int32) = (bI (gConn fj n)) from by { have h2 : ¬ 2 ≤ n := (fun q => c_5 (show nI 2 ≤ nI n from nI_le q (by omega))); simp [gConn, bI, h2] })) ?_
    exact g_zret (pc := 9) C hr (by first | rfl | exact bI_nar _) hlk (by first | decide | omega) (by first | decide | omega) (by first | decide | omega) dX3_isConnected_9 ⟨rfl, rfl⟩
end
section
theorem dX6_init_0 : decode cX6_init 0 = .ok (.aload_n 0, 1) := by decide +kernel
theorem dX6_init_1 : decode cX6_init 1 = .ok (.invokespecial 3, 3) := by decide +kernel
theorem q_28 : (Jvm.Cond.methodLink "Chipfold$Pile" (3 : Nat) ({ cls := "java/lang/Object", name := "<init>", desc := "()V" } : Jvm.MethodName)) ∈ WG := wg_1 (List.mem_of_getElem? (i := 86) (by decide +kernel)) (by decide +kernel)
theorem dX6_init_4 : decode cX6_init 4 = .ok (.aload_n 0, 1) := by decide +kernel
theorem dX6_init_5 : decode cX6_init 5 = .ok (.new 9, 3) := by decide +kernel
theorem q_29 : (Jvm.Cond.instantiable "Chipfold$Row" (1 : Nat)) ∈ WG := wg_1 (List.mem_of_getElem? (i := 72) (by decide +kernel)) (by decide +kernel)
theorem q_30 : (Jvm.Cond.classLink "Chipfold$Pile" (9 : Nat) "Chipfold$Row") ∈ WG := wg_1 (List.mem_of_getElem? (i := 87) (by decide +kernel)) (by decide +kernel)
theorem dX6_init_8 : decode cX6_init 8 = .ok (.dup, 1) := by decide +kernel
theorem dX6_init_9 : decode cX6_init 9 = .ok (.bipush 6, 2) := by decide +kernel
theorem dX6_init_11 : decode cX6_init 11 = .ok (.invokespecial 11, 3) := by decide +kernel
theorem q_31 : (Jvm.Cond.code ({ cls := "Chipfold$Row", name := "<init>", desc := "(I)V" } : Jvm.MethodName) prog_10_method_1_code (2 : Nat) (Option.none : Option Jvm.ClassFile.FieldType)) ∈ WG := wg_1 (List.mem_of_getElem? (i := 75) rfl) rfl
theorem q_32 : (Jvm.Cond.methodLink "Chipfold$Pile" (11 : Nat) ({ cls := "Chipfold$Row", name := "<init>", desc := "(I)V" } : Jvm.MethodName)) ∈ WG := wg_1 (List.mem_of_getElem? (i := 88) (by decide +kernel)) (by decide +kernel)
theorem q_33 : (Jvm.Cond.instanceMethod ({ cls := "Chipfold$Row", name := "<init>", desc := "(I)V" } : Jvm.MethodName)) ∈ WG := wg_1 (List.mem_of_getElem? (i := 74) (by decide +kernel)) (by decide +kernel)
theorem dX6_init_14 : decode cX6_init 14 = .ok (.putfield 14, 3) := by decide +kernel
theorem q_34 : (Jvm.Cond.fieldLink "Chipfold$Pile" (14 : Nat) "Chipfold$Pile" "held" "LChipfold$Row;") ∈ WG := wg_1 (List.mem_of_getElem? (i := 90) (by decide +kernel)) (by decide +kernel)
theorem inX6 : ∀ w ∈ u_ws RX6 TX6 4, w ∈ WG := by decide +kernel
theorem dX6_init_17 : decode cX6_init 17 = .ok (.aload_n 0, 1) := by decide +kernel
theorem dX6_init_18 : decode cX6_init 18 = .ok (.new 9, 3) := by decide +kernel
theorem dX6_init_21 : decode cX6_init 21 = .ok (.dup, 1) := by decide +kernel
theorem dX6_init_22 : decode cX6_init 22 = .ok (.bipush 6, 2) := by decide +kernel
theorem dX6_init_24 : decode cX6_init 24 = .ok (.invokespecial 11, 3) := by decide +kernel
theorem dX6_init_27 : decode cX6_init 27 = .ok (.putfield 20, 3) := by decide +kernel
theorem q_35 : (Jvm.Cond.fieldLink "Chipfold$Pile" (20 : Nat) "Chipfold$Pile" "counts" "LChipfold$Row;") ∈ WG := wg_1 (List.mem_of_getElem? (i := 91) (by decide +kernel)) (by decide +kernel)
theorem dX6_init_30 : decode cX6_init 30 = .ok (.aload_n 0, 1) := by decide +kernel
theorem dX6_init_31 : decode cX6_init 31 = .ok (.iconst 0, 1) := by decide +kernel
theorem dX6_init_32 : decode cX6_init 32 = .ok (.putfield 23, 3) := by decide +kernel
theorem q_36 : (Jvm.Cond.fieldLink "Chipfold$Pile" (23 : Nat) "Chipfold$Pile" "taken" "I") ∈ WG := wg_1 (List.mem_of_getElem? (i := 92) (by decide +kernel)) (by decide +kernel)
theorem dX6_init_35 : decode cX6_init 35 = .ok (.aload_n 0, 1) := by decide +kernel
theorem dX6_init_36 : decode cX6_init 36 = .ok (.aload_n 1, 1) := by decide +kernel
theorem dX6_init_37 : decode cX6_init 37 = .ok (.putfield 27, 3) := by decide +kernel
theorem q_37 : (Jvm.Cond.fieldLink "Chipfold$Pile" (27 : Nat) "Chipfold$Pile" "graph" "LChipfold$Graph;") ∈ WG := wg_1 (List.mem_of_getElem? (i := 89) (by decide +kernel)) (by decide +kernel)
theorem dX6_init_40 : decode cX6_init 40 = .ok (.return_, 1) := by decide +kernel
theorem dX6_clear_0 : decode cX6_clear 0 = .ok (.aload_n 0, 1) := by decide +kernel
theorem dX6_clear_1 : decode cX6_clear 1 = .ok (.getfield 14, 3) := by decide +kernel
theorem dX6_clear_4 : decode cX6_clear 4 = .ok (.iconst 0, 1) := by decide +kernel
theorem dX6_clear_5 : decode cX6_clear 5 = .ok (.invokevirtual 31, 3) := by decide +kernel
theorem q_38 : (Jvm.Cond.code ({ cls := "Chipfold$Row", name := "fill", desc := "(I)V" } : Jvm.MethodName) prog_10_method_5_code (3 : Nat) (Option.none : Option Jvm.ClassFile.FieldType)) ∈ WG := wg_2 (List.mem_of_getElem? (i := 147) rfl) rfl
theorem q_39 : (Jvm.Cond.selects "Chipfold$Row" ({ cls := "Chipfold$Row", name := "fill", desc := "(I)V" } : Jvm.MethodName) ({ cls := "Chipfold$Row", name := "fill", desc := "(I)V" } : Jvm.MethodName)) ∈ WG := wg_2 (List.mem_of_getElem? (i := 146) (by decide +kernel)) (by decide +kernel)
theorem q_40 : (Jvm.Cond.methodLink "Chipfold$Pile" (31 : Nat) ({ cls := "Chipfold$Row", name := "fill", desc := "(I)V" } : Jvm.MethodName)) ∈ WG := wg_2 (List.mem_of_getElem? (i := 144) (by decide +kernel)) (by decide +kernel)
theorem q_41 : (Jvm.Cond.instanceMethod ({ cls := "Chipfold$Row", name := "fill", desc := "(I)V" } : Jvm.MethodName)) ∈ WG := wg_2 (List.mem_of_getElem? (i := 145) (by decide +kernel)) (by decide +kernel)
theorem dX6_clear_8 : decode cX6_clear 8 = .ok (.aload_n 0, 1) := by decide +kernel
theorem dX6_clear_9 : decode cX6_clear 9 = .ok (.getfield 20, 3) := by decide +kernel
theorem dX6_clear_12 : decode cX6_clear 12 = .ok (.iconst 0, 1) := by decide +kernel
theorem dX6_clear_13 : decode cX6_clear 13 = .ok (.invokevirtual 31, 3) := by decide +kernel
theorem dX6_clear_16 : decode cX6_clear 16 = .ok (.aload_n 0, 1) := by decide +kernel
theorem dX6_clear_17 : decode cX6_clear 17 = .ok (.iconst 0, 1) := by decide +kernel
theorem dX6_clear_18 : decode cX6_clear 18 = .ok (.putfield 23, 3) := by decide +kernel
theorem dX6_clear_21 : decode cX6_clear 21 = .ok (.return_, 1) := by decide +kernel
theorem dX6_copyChips_0 : decode cX6_copyChips 0 = .ok (.aload_n 0, 1) := by decide +kernel
theorem dX6_copyChips_1 : decode cX6_copyChips 1 = .ok (.invokevirtual 34, 3) := by decide +kernel
theorem q_42 : (Jvm.Cond.code ({ cls := "Chipfold$Pile", name := "clear", desc := "()V" } : Jvm.MethodName) prog_8_method_2_code (1 : Nat) (Option.none : Option Jvm.ClassFile.FieldType)) ∈ WG := wg_2 (List.mem_of_getElem? (i := 143) rfl) rfl
theorem q_43 : (Jvm.Cond.initialized "Chipfold$Pile") ∈ WG := wg_1 (List.mem_of_getElem? (i := 5) (by decide +kernel)) (by decide +kernel)
theorem q_44 : (Jvm.Cond.selects "Chipfold$Pile" ({ cls := "Chipfold$Pile", name := "clear", desc := "()V" } : Jvm.MethodName) ({ cls := "Chipfold$Pile", name := "clear", desc := "()V" } : Jvm.MethodName)) ∈ WG := wg_2 (List.mem_of_getElem? (i := 142) (by decide +kernel)) (by decide +kernel)
theorem q_45 : (Jvm.Cond.methodLink "Chipfold$Pile" (34 : Nat) ({ cls := "Chipfold$Pile", name := "clear", desc := "()V" } : Jvm.MethodName)) ∈ WG := wg_2 (List.mem_of_getElem? (i := 140) (by decide +kernel)) (by decide +kernel)
theorem q_46 : (Jvm.Cond.instanceMethod ({ cls := "Chipfold$Pile", name := "clear", desc := "()V" } : Jvm.MethodName)) ∈ WG := wg_2 (List.mem_of_getElem? (i := 141) (by decide +kernel)) (by decide +kernel)
theorem dX6_copyChips_4 : decode cX6_copyChips 4 = .ok (.aload_n 0, 1) := by decide +kernel
theorem dX6_copyChips_5 : decode cX6_copyChips 5 = .ok (.getfield 14, 3) := by decide +kernel
theorem dX6_copyChips_8 : decode cX6_copyChips 8 = .ok (.aload_n 1, 1) := by decide +kernel
theorem dX6_copyChips_9 : decode cX6_copyChips 9 = .ok (.getfield 14, 3) := by decide +kernel
theorem dX6_copyChips_12 : decode cX6_copyChips 12 = .ok (.invokevirtual 37, 3) := by decide +kernel
theorem q_47 : (Jvm.Cond.code ({ cls := "Chipfold$Row", name := "copy", desc := "(LChipfold$Row;)V" } : Jvm.MethodName) prog_10_method_6_code (3 : Nat) (Option.none : Option Jvm.ClassFile.FieldType)) ∈ WG := wg_2 (List.mem_of_getElem? (i := 151) rfl) rfl
theorem q_48 : (Jvm.Cond.selects "Chipfold$Row" ({ cls := "Chipfold$Row", name := "copy", desc := "(LChipfold$Row;)V" } : Jvm.MethodName) ({ cls := "Chipfold$Row", name := "copy", desc := "(LChipfold$Row;)V" } : Jvm.MethodName)) ∈ WG := wg_2 (List.mem_of_getElem? (i := 150) (by decide +kernel)) (by decide +kernel)
theorem q_49 : (Jvm.Cond.methodLink "Chipfold$Pile" (37 : Nat) ({ cls := "Chipfold$Row", name := "copy", desc := "(LChipfold$Row;)V" } : Jvm.MethodName)) ∈ WG := wg_2 (List.mem_of_getElem? (i := 148) (by decide +kernel)) (by decide +kernel)
theorem q_50 : (Jvm.Cond.instanceMethod ({ cls := "Chipfold$Row", name := "copy", desc := "(LChipfold$Row;)V" } : Jvm.MethodName)) ∈ WG := wg_2 (List.mem_of_getElem? (i := 149) (by decide +kernel)) (by decide +kernel)
theorem dX6_copyChips_15 : decode cX6_copyChips 15 = .ok (.return_, 1) := by decide +kernel
theorem dX6_at_0 : decode cX6_at 0 = .ok (.aload_n 0, 1) := by decide +kernel
theorem dX6_at_1 : decode cX6_at 1 = .ok (.getfield 14, 3) := by decide +kernel
theorem dX6_at_4 : decode cX6_at 4 = .ok (.iload_n 1, 1) := by decide +kernel
theorem dX6_at_5 : decode cX6_at 5 = .ok (.invokevirtual 45, 3) := by decide +kernel
theorem q_51 : (Jvm.Cond.methodLink "Chipfold$Pile" (45 : Nat) ({ cls := "Chipfold$Row", name := "at", desc := "(I)I" } : Jvm.MethodName)) ∈ WG := wg_2 (List.mem_of_getElem? (i := 168) (by decide +kernel)) (by decide +kernel)
theorem dX6_at_8 : decode cX6_at 8 = .ok (.ireturn, 1) := by decide +kernel
theorem dX6_receive_0 : decode cX6_receive 0 = .ok (.aload_n 0, 1) := by decide +kernel
theorem dX6_receive_1 : decode cX6_receive 1 = .ok (.getfield 27, 3) := by decide +kernel
theorem dX6_receive_4 : decode cX6_receive 4 = .ok (.iload_n 1, 1) := by decide +kernel
theorem dX6_receive_5 : decode cX6_receive 5 = .ok (.invokevirtual 53, 3) := by decide +kernel
theorem q_52 : (Jvm.Cond.code ({ cls := "Chipfold$Graph", name := "isSink", desc := "(I)Z" } : Jvm.MethodName) prog_5_method_9_code (2 : Nat) (Option.some Jvm.ClassFile.FieldType.boolean)) ∈ WG := wg_2 (List.mem_of_getElem? (i := 167) rfl) rfl
theorem q_53 : (Jvm.Cond.selects "Chipfold$Graph" ({ cls := "Chipfold$Graph", name := "isSink", desc := "(I)Z" } : Jvm.MethodName) ({ cls := "Chipfold$Graph", name := "isSink", desc := "(I)Z" } : Jvm.MethodName)) ∈ WG := wg_2 (List.mem_of_getElem? (i := 166) (by decide +kernel)) (by decide +kernel)
theorem q_54 : (Jvm.Cond.methodLink "Chipfold$Pile" (53 : Nat) ({ cls := "Chipfold$Graph", name := "isSink", desc := "(I)Z" } : Jvm.MethodName)) ∈ WG := wg_2 (List.mem_of_getElem? (i := 164) (by decide +kernel)) (by decide +kernel)
theorem q_55 : (Jvm.Cond.instanceMethod ({ cls := "Chipfold$Graph", name := "isSink", desc := "(I)Z" } : Jvm.MethodName)) ∈ WG := wg_2 (List.mem_of_getElem? (i := 165) (by decide +kernel)) (by decide +kernel)
theorem dX6_receive_8 : decode cX6_receive 8 = .ok (.ifCond .eq 16, 3) := by decide +kernel
theorem dX6_receive_24 : decode cX6_receive 24 = .ok (.aload_n 0, 1) := by decide +kernel
theorem dX6_receive_25 : decode cX6_receive 25 = .ok (.getfield 14, 3) := by decide +kernel
theorem dX6_receive_28 : decode cX6_receive 28 = .ok (.iload_n 1, 1) := by decide +kernel
theorem dX6_receive_29 : decode cX6_receive 29 = .ok (.iload_n 2, 1) := by decide +kernel
theorem dX6_receive_30 : decode cX6_receive 30 = .ok (.invokevirtual 59, 3) := by decide +kernel
theorem q_56 : (Jvm.Cond.code ({ cls := "Chipfold$Row", name := "add", desc := "(II)V" } : Jvm.MethodName) prog_10_method_4_code (3 : Nat) (Option.none : Option Jvm.ClassFile.FieldType)) ∈ WG := wg_2 (List.mem_of_getElem? (i := 131) rfl) rfl
theorem q_57 : (Jvm.Cond.selects "Chipfold$Row" ({ cls := "Chipfold$Row", name := "add", desc := "(II)V" } : Jvm.MethodName) ({ cls := "Chipfold$Row", name := "add", desc := "(II)V" } : Jvm.MethodName)) ∈ WG := wg_2 (List.mem_of_getElem? (i := 130) (by decide +kernel)) (by decide +kernel)
theorem q_58 : (Jvm.Cond.methodLink "Chipfold$Pile" (59 : Nat) ({ cls := "Chipfold$Row", name := "add", desc := "(II)V" } : Jvm.MethodName)) ∈ WG := wg_2 (List.mem_of_getElem? (i := 173) (by decide +kernel)) (by decide +kernel)
theorem q_59 : (Jvm.Cond.instanceMethod ({ cls := "Chipfold$Row", name := "add", desc := "(II)V" } : Jvm.MethodName)) ∈ WG := wg_2 (List.mem_of_getElem? (i := 129) (by decide +kernel)) (by decide +kernel)
theorem dX6_receive_33 : decode cX6_receive 33 = .ok (.return_, 1) := by decide +kernel
theorem dX6_receive_11 : decode cX6_receive 11 = .ok (.aload_n 0, 1) := by decide +kernel
theorem dX6_receive_12 : decode cX6_receive 12 = .ok (.dup, 1) := by decide +kernel
theorem dX6_receive_13 : decode cX6_receive 13 = .ok (.getfield 23, 3) := by decide +kernel
theorem dX6_receive_16 : decode cX6_receive 16 = .ok (.iload_n 2, 1) := by decide +kernel
theorem dX6_receive_17 : decode cX6_receive 17 = .ok (.iadd, 1) := by decide +kernel
theorem dX6_receive_18 : decode cX6_receive 18 = .ok (.putfield 23, 3) := by decide +kernel
theorem dX6_receive_21 : decode cX6_receive 21 = .ok (.goto 12, 3) := by decide +kernel
theorem dX6_canTopple_0 : decode cX6_canTopple 0 = .ok (.aload_n 0, 1) := by decide +kernel
theorem dX6_canTopple_1 : decode cX6_canTopple 1 = .ok (.getfield 27, 3) := by decide +kernel
theorem dX6_canTopple_4 : decode cX6_canTopple 4 = .ok (.iload_n 1, 1) := by decide +kernel
theorem dX6_canTopple_5 : decode cX6_canTopple 5 = .ok (.invokevirtual 63, 3) := by decide +kernel
theorem q_60 : (Jvm.Cond.code ({ cls := "Chipfold$Graph", name := "degreeOf", desc := "(I)I" } : Jvm.MethodName) prog_5_method_11_code (2 : Nat) (Option.some Jvm.ClassFile.FieldType.int)) ∈ WG := wg_2 (List.mem_of_getElem? (i := 74) rfl) rfl
theorem q_61 : (Jvm.Cond.selects "Chipfold$Graph" ({ cls := "Chipfold$Graph", name := "degreeOf", desc := "(I)I" } : Jvm.MethodName) ({ cls := "Chipfold$Graph", name := "degreeOf", desc := "(I)I" } : Jvm.MethodName)) ∈ WG := wg_2 (List.mem_of_getElem? (i := 73) (by decide +kernel)) (by decide +kernel)
theorem q_62 : (Jvm.Cond.methodLink "Chipfold$Pile" (63 : Nat) ({ cls := "Chipfold$Graph", name := "degreeOf", desc := "(I)I" } : Jvm.MethodName)) ∈ WG := wg_2 (List.mem_of_getElem? (i := 159) (by decide +kernel)) (by decide +kernel)
theorem q_63 : (Jvm.Cond.instanceMethod ({ cls := "Chipfold$Graph", name := "degreeOf", desc := "(I)I" } : Jvm.MethodName)) ∈ WG := wg_2 (List.mem_of_getElem? (i := 72) (by decide +kernel)) (by decide +kernel)
theorem dX6_canTopple_8 : decode cX6_canTopple 8 = .ok (.istore_n 2, 1) := by decide +kernel
theorem dX6_canTopple_9 : decode cX6_canTopple 9 = .ok (.aload_n 0, 1) := by decide +kernel
theorem dX6_canTopple_10 : decode cX6_canTopple 10 = .ok (.getfield 27, 3) := by decide +kernel
theorem dX6_canTopple_13 : decode cX6_canTopple 13 = .ok (.iload_n 1, 1) := by decide +kernel
theorem dX6_canTopple_14 : decode cX6_canTopple 14 = .ok (.invokevirtual 53, 3) := by decide +kernel
theorem dX6_canTopple_17 : decode cX6_canTopple 17 = .ok (.ifCond .ne 23, 3) := by decide +kernel
theorem dX6_canTopple_40 : decode cX6_canTopple 40 = .ok (.iconst 0, 1) := by decide +kernel
theorem dX6_canTopple_41 : decode cX6_canTopple 41 = .ok (.ireturn, 1) := by decide +kernel
theorem dX6_canTopple_20 : decode cX6_canTopple 20 = .ok (.iload_n 2, 1) := by decide +kernel
theorem dX6_canTopple_21 : decode cX6_canTopple 21 = .ok (.ifCond .le 19, 3) := by decide +kernel
theorem dX6_canTopple_24 : decode cX6_canTopple 24 = .ok (.aload_n 0, 1) := by decide +kernel
theorem dX6_canTopple_25 : decode cX6_canTopple 25 = .ok (.getfield 14, 3) := by decide +kernel
theorem dX6_canTopple_28 : decode cX6_canTopple 28 = .ok (.iload_n 1, 1) := by decide +kernel
theorem dX6_canTopple_29 : decode cX6_canTopple 29 = .ok (.invokevirtual 45, 3) := by decide +kernel
theorem dX6_canTopple_32 : decode cX6_canTopple 32 = .ok (.iload_n 2, 1) := by decide +kernel
theorem dX6_canTopple_33 : decode cX6_canTopple 33 = .ok (.if_icmp .lt 7, 3) := by decide +kernel
theorem dX6_canTopple_36 : decode cX6_canTopple 36 = .ok (.iconst 1, 1) := by decide +kernel
theorem dX6_canTopple_37 : decode cX6_canTopple 37 = .ok (.goto 4, 3) := by decide +kernel
theorem dX6_toppleTimes_0 : decode cX6_toppleTimes 0 = .ok (.aload_n 0, 1) := by decide +kernel
theorem dX6_toppleTimes_1 : decode cX6_toppleTimes 1 = .ok (.getfield 14, 3) := by decide +kernel
theorem dX6_toppleTimes_4 : decode cX6_toppleTimes 4 = .ok (.iload_n 1, 1) := by decide +kernel
theorem dX6_toppleTimes_5 : decode cX6_toppleTimes 5 = .ok (.iload_n 2, 1) := by decide +kernel
theorem dX6_toppleTimes_6 : decode cX6_toppleTimes 6 = .ok (.ineg, 1) := by decide +kernel
theorem dX6_toppleTimes_7 : decode cX6_toppleTimes 7 = .ok (.aload_n 0, 1) := by decide +kernel
theorem dX6_toppleTimes_8 : decode cX6_toppleTimes 8 = .ok (.getfield 27, 3) := by decide +kernel
theorem dX6_toppleTimes_11 : decode cX6_toppleTimes 11 = .ok (.iload_n 1, 1) := by decide +kernel
theorem dX6_toppleTimes_12 : decode cX6_toppleTimes 12 = .ok (.invokevirtual 63, 3) := by decide +kernel
theorem dX6_toppleTimes_15 : decode cX6_toppleTimes 15 = .ok (.imul, 1) := by decide +kernel
theorem dX6_toppleTimes_16 : decode cX6_toppleTimes 16 = .ok (.invokevirtual 59, 3) := by decide +kernel
theorem dX6_toppleTimes_19 : decode cX6_toppleTimes 19 = .ok (.aload_n 0, 1) := by decide +kernel
theorem dX6_toppleTimes_20 : decode cX6_toppleTimes 20 = .ok (.getfield 20, 3) := by decide +kernel
theorem dX6_toppleTimes_23 : decode cX6_toppleTimes 23 = .ok (.iload_n 1, 1) := by decide +kernel
theorem dX6_toppleTimes_24 : decode cX6_toppleTimes 24 = .ok (.iload_n 2, 1) := by decide +kernel
theorem dX6_toppleTimes_25 : decode cX6_toppleTimes 25 = .ok (.invokevirtual 59, 3) := by decide +kernel
theorem dX6_toppleTimes_28 : decode cX6_toppleTimes 28 = .ok (.iconst 0, 1) := by decide +kernel
theorem dX6_toppleTimes_29 : decode cX6_toppleTimes 29 = .ok (.istore_n 3, 1) := by decide +kernel
theorem dX6_toppleTimes_30 : decode cX6_toppleTimes 30 = .ok (.iload_n 3, 1) := by decide +kernel
theorem dX6_toppleTimes_31 : decode cX6_toppleTimes 31 = .ok (.aload_n 0, 1) := by decide +kernel
theorem dX6_toppleTimes_32 : decode cX6_toppleTimes 32 = .ok (.getfield 27, 3) := by decide +kernel
theorem dX6_toppleTimes_35 : decode cX6_toppleTimes 35 = .ok (.invokevirtual 66, 3) := by decide +kernel
theorem q_64 : (Jvm.Cond.code ({ cls := "Chipfold$Graph", name := "size", desc := "()I" } : Jvm.MethodName) prog_5_method_2_code (1 : Nat) (Option.some Jvm.ClassFile.FieldType.int)) ∈ WG := wg_2 (List.mem_of_getElem? (i := 58) rfl) rfl
theorem q_65 : (Jvm.Cond.selects "Chipfold$Graph" ({ cls := "Chipfold$Graph", name := "size", desc := "()I" } : Jvm.MethodName) ({ cls := "Chipfold$Graph", name := "size", desc := "()I" } : Jvm.MethodName)) ∈ WG := wg_2 (List.mem_of_getElem? (i := 57) (by decide +kernel)) (by decide +kernel)
theorem q_66 : (Jvm.Cond.methodLink "Chipfold$Pile" (66 : Nat) ({ cls := "Chipfold$Graph", name := "size", desc := "()I" } : Jvm.MethodName)) ∈ WG := wg_2 (List.mem_of_getElem? (i := 158) (by decide +kernel)) (by decide +kernel)
theorem q_67 : (Jvm.Cond.instanceMethod ({ cls := "Chipfold$Graph", name := "size", desc := "()I" } : Jvm.MethodName)) ∈ WG := wg_2 (List.mem_of_getElem? (i := 56) (by decide +kernel)) (by decide +kernel)
theorem dX6_toppleTimes_38 : decode cX6_toppleTimes 38 = .ok (.if_icmp .ge 57, 3) := by decide +kernel
theorem dX6_toppleTimes_95 : decode cX6_toppleTimes 95 = .ok (.return_, 1) := by decide +kernel
theorem dX6_toppleTimes_41 : decode cX6_toppleTimes 41 = .ok (.iload_n 2, 1) := by decide +kernel
theorem dX6_toppleTimes_42 : decode cX6_toppleTimes 42 = .ok (.aload_n 0, 1) := by decide +kernel
theorem dX6_toppleTimes_43 : decode cX6_toppleTimes 43 = .ok (.getfield 27, 3) := by decide +kernel
theorem dX6_toppleTimes_46 : decode cX6_toppleTimes 46 = .ok (.iload_n 1, 1) := by decide +kernel
theorem dX6_toppleTimes_47 : decode cX6_toppleTimes 47 = .ok (.iload_n 3, 1) := by decide +kernel
theorem dX6_toppleTimes_48 : decode cX6_toppleTimes 48 = .ok (.invokevirtual 72, 3) := by decide +kernel
theorem q_68 : (Jvm.Cond.methodLink "Chipfold$Pile" (72 : Nat) ({ cls := "Chipfold$Graph", name := "between", desc := "(II)I" } : Jvm.MethodName)) ∈ WG := wg_2 (List.mem_of_getElem? (i := 174) (by decide +kernel)) (by decide +kernel)
theorem dX6_toppleTimes_51 : decode cX6_toppleTimes 51 = .ok (.imul, 1) := by decide +kernel
theorem dX6_toppleTimes_52 : decode cX6_toppleTimes 52 = .ok (.istore 4, 2) := by decide +kernel
theorem dX6_toppleTimes_54 : decode cX6_toppleTimes 54 = .ok (.aload_n 0, 1) := by decide +kernel
theorem dX6_toppleTimes_55 : decode cX6_toppleTimes 55 = .ok (.getfield 27, 3) := by decide +kernel
theorem dX6_toppleTimes_58 : decode cX6_toppleTimes 58 = .ok (.iload_n 3, 1) := by decide +kernel
theorem dX6_toppleTimes_59 : decode cX6_toppleTimes 59 = .ok (.invokevirtual 53, 3) := by decide +kernel
theorem dX6_toppleTimes_62 : decode cX6_toppleTimes 62 = .ok (.ifCond .eq 17, 3) := by decide +kernel
theorem dX6_toppleTimes_79 : decode cX6_toppleTimes 79 = .ok (.aload_n 0, 1) := by decide +kernel
theorem dX6_toppleTimes_80 : decode cX6_toppleTimes 80 = .ok (.getfield 14, 3) := by decide +kernel
theorem dX6_toppleTimes_83 : decode cX6_toppleTimes 83 = .ok (.iload_n 3, 1) := by decide +kernel
theorem dX6_toppleTimes_84 : decode cX6_toppleTimes 84 = .ok (.iload 4, 2) := by decide +kernel
theorem dX6_toppleTimes_86 : decode cX6_toppleTimes 86 = .ok (.invokevirtual 59, 3) := by decide +kernel
theorem dX6_toppleTimes_89 : decode cX6_toppleTimes 89 = .ok (.iinc 3 1, 3) := by decide +kernel
theorem dX6_toppleTimes_92 : decode cX6_toppleTimes 92 = .ok (.goto (-62), 3) := by decide +kernel
theorem dX6_toppleTimes_65 : decode cX6_toppleTimes 65 = .ok (.aload_n 0, 1) := by decide +kernel
theorem dX6_toppleTimes_66 : decode cX6_toppleTimes 66 = .ok (.dup, 1) := by decide +kernel
theorem dX6_toppleTimes_67 : decode cX6_toppleTimes 67 = .ok (.getfield 23, 3) := by decide +kernel
theorem dX6_toppleTimes_70 : decode cX6_toppleTimes 70 = .ok (.iload 4, 2) := by decide +kernel
theorem dX6_toppleTimes_72 : decode cX6_toppleTimes 72 = .ok (.iadd, 1) := by decide +kernel
theorem dX6_toppleTimes_73 : decode cX6_toppleTimes 73 = .ok (.putfield 23, 3) := by decide +kernel
theorem dX6_toppleTimes_76 : decode cX6_toppleTimes 76 = .ok (.goto 13, 3) := by decide +kernel
theorem dX6_toppleWave_0 : decode cX6_toppleWave 0 = .ok (.iconst 0, 1) := by decide +kernel
theorem dX6_toppleWave_1 : decode cX6_toppleWave 1 = .ok (.istore_n 1, 1) := by decide +kernel
theorem dX6_toppleWave_2 : decode cX6_toppleWave 2 = .ok (.iconst 0, 1) := by decide +kernel
theorem dX6_toppleWave_3 : decode cX6_toppleWave 3 = .ok (.istore_n 2, 1) := by decide +kernel
theorem dX6_toppleWave_4 : decode cX6_toppleWave 4 = .ok (.iload_n 2, 1) := by decide +kernel
theorem dX6_toppleWave_5 : decode cX6_toppleWave 5 = .ok (.aload_n 0, 1) := by decide +kernel
theorem dX6_toppleWave_6 : decode cX6_toppleWave 6 = .ok (.getfield 27, 3) := by decide +kernel
theorem dX6_toppleWave_9 : decode cX6_toppleWave 9 = .ok (.invokevirtual 66, 3) := by decide +kernel
theorem dX6_toppleWave_12 : decode cX6_toppleWave 12 = .ok (.if_icmp .ge 23, 3) := by decide +kernel
theorem dX6_toppleWave_35 : decode cX6_toppleWave 35 = .ok (.iconst 0, 1) := by decide +kernel
theorem dX6_toppleWave_36 : decode cX6_toppleWave 36 = .ok (.istore_n 2, 1) := by decide +kernel
theorem dX6_toppleWave_37 : decode cX6_toppleWave 37 = .ok (.iload_n 2, 1) := by decide +kernel
theorem dX6_toppleWave_38 : decode cX6_toppleWave 38 = .ok (.aload_n 0, 1) := by decide +kernel
theorem dX6_toppleWave_39 : decode cX6_toppleWave 39 = .ok (.getfield 27, 3) := by decide +kernel
theorem dX6_toppleWave_42 : decode cX6_toppleWave 42 = .ok (.invokevirtual 66, 3) := by decide +kernel
theorem dX6_toppleWave_45 : decode cX6_toppleWave 45 = .ok (.if_icmp .ge 24, 3) := by decide +kernel
theorem dX6_toppleWave_69 : decode cX6_toppleWave 69 = .ok (.iload_n 1, 1) := by decide +kernel
theorem dX6_toppleWave_70 : decode cX6_toppleWave 70 = .ok (.ifCond .eq 7, 3) := by decide +kernel
theorem dX6_toppleWave_77 : decode cX6_toppleWave 77 = .ok (.iconst 0, 1) := by decide +kernel
theorem dX6_toppleWave_78 : decode cX6_toppleWave 78 = .ok (.ireturn, 1) := by decide +kernel
theorem dX6_toppleWave_73 : decode cX6_toppleWave 73 = .ok (.iconst 1, 1) := by decide +kernel
theorem dX6_toppleWave_74 : decode cX6_toppleWave 74 = .ok (.goto 4, 3) := by decide +kernel
theorem dX6_toppleWave_48 : decode cX6_toppleWave 48 = .ok (.iload_n 1, 1) := by decide +kernel
theorem dX6_toppleWave_49 : decode cX6_toppleWave 49 = .ok (.iload_n 2, 1) := by decide +kernel
theorem dX6_toppleWave_50 : decode cX6_toppleWave 50 = .ok (.ishr, 1) := by decide +kernel
theorem dX6_toppleWave_51 : decode cX6_toppleWave 51 = .ok (.iconst 1, 1) := by decide +kernel
theorem dX6_toppleWave_52 : decode cX6_toppleWave 52 = .ok (.iand, 1) := by decide +kernel
theorem dX6_toppleWave_53 : decode cX6_toppleWave 53 = .ok (.iconst 1, 1) := by decide +kernel
theorem dX6_toppleWave_54 : decode cX6_toppleWave 54 = .ok (.if_icmp .ne 9, 3) := by decide +kernel
theorem dX6_toppleWave_63 : decode cX6_toppleWave 63 = .ok (.iinc 2 1, 3) := by decide +kernel
theorem dX6_toppleWave_66 : decode cX6_toppleWave 66 = .ok (.goto (-29), 3) := by decide +kernel
theorem dX6_toppleWave_57 : decode cX6_toppleWave 57 = .ok (.aload_n 0, 1) := by decide +kernel
theorem dX6_toppleWave_58 : decode cX6_toppleWave 58 = .ok (.iload_n 2, 1) := by decide +kernel
theorem dX6_toppleWave_59 : decode cX6_toppleWave 59 = .ok (.iconst 1, 1) := by decide +kernel
theorem dX6_toppleWave_60 : decode cX6_toppleWave 60 = .ok (.invokevirtual 77, 3) := by decide +kernel
theorem q_69 : (Jvm.Cond.code ({ cls := "Chipfold$Pile", name := "toppleTimes", desc := "(II)V" } : Jvm.MethodName) prog_8_method_12_code (5 : Nat) (Option.none : Option Jvm.ClassFile.FieldType)) ∈ WG := wg_2 (List.mem_of_getElem? (i := 172) rfl) rfl
theorem q_70 : (Jvm.Cond.selects "Chipfold$Pile" ({ cls := "Chipfold$Pile", name := "toppleTimes", desc := "(II)V" } : Jvm.MethodName) ({ cls := "Chipfold$Pile", name := "toppleTimes", desc := "(II)V" } : Jvm.MethodName)) ∈ WG := wg_2 (List.mem_of_getElem? (i := 171) (by decide +kernel)) (by decide +kernel)
theorem q_71 : (Jvm.Cond.methodLink "Chipfold$Pile" (77 : Nat) ({ cls := "Chipfold$Pile", name := "toppleTimes", desc := "(II)V" } : Jvm.MethodName)) ∈ WG := wg_2 (List.mem_of_getElem? (i := 169) (by decide +kernel)) (by decide +kernel)
theorem q_72 : (Jvm.Cond.instanceMethod ({ cls := "Chipfold$Pile", name := "toppleTimes", desc := "(II)V" } : Jvm.MethodName)) ∈ WG := wg_2 (List.mem_of_getElem? (i := 170) (by decide +kernel)) (by decide +kernel)
theorem dX6_toppleWave_15 : decode cX6_toppleWave 15 = .ok (.aload_n 0, 1) := by decide +kernel
theorem dX6_toppleWave_16 : decode cX6_toppleWave 16 = .ok (.iload_n 2, 1) := by decide +kernel
theorem dX6_toppleWave_17 : decode cX6_toppleWave 17 = .ok (.invokevirtual 69, 3) := by decide +kernel
theorem q_73 : (Jvm.Cond.code ({ cls := "Chipfold$Pile", name := "canTopple", desc := "(I)Z" } : Jvm.MethodName) prog_8_method_10_code (3 : Nat) (Option.some Jvm.ClassFile.FieldType.boolean)) ∈ WG := wg_2 (List.mem_of_getElem? (i := 163) rfl) rfl
theorem q_74 : (Jvm.Cond.selects "Chipfold$Pile" ({ cls := "Chipfold$Pile", name := "canTopple", desc := "(I)Z" } : Jvm.MethodName) ({ cls := "Chipfold$Pile", name := "canTopple", desc := "(I)Z" } : Jvm.MethodName)) ∈ WG := wg_2 (List.mem_of_getElem? (i := 162) (by decide +kernel)) (by decide +kernel)
theorem q_75 : (Jvm.Cond.methodLink "Chipfold$Pile" (69 : Nat) ({ cls := "Chipfold$Pile", name := "canTopple", desc := "(I)Z" } : Jvm.MethodName)) ∈ WG := wg_2 (List.mem_of_getElem? (i := 160) (by decide +kernel)) (by decide +kernel)
theorem q_76 : (Jvm.Cond.instanceMethod ({ cls := "Chipfold$Pile", name := "canTopple", desc := "(I)Z" } : Jvm.MethodName)) ∈ WG := wg_2 (List.mem_of_getElem? (i := 161) (by decide +kernel)) (by decide +kernel)
theorem dX6_toppleWave_20 : decode cX6_toppleWave 20 = .ok (.ifCond .eq 9, 3) := by decide +kernel
theorem dX6_toppleWave_29 : decode cX6_toppleWave 29 = .ok (.iinc 2 1, 3) := by decide +kernel
theorem dX6_toppleWave_32 : decode cX6_toppleWave 32 = .ok (.goto (-28), 3) := by decide +kernel
theorem dX6_toppleWave_23 : decode cX6_toppleWave 23 = .ok (.iload_n 1, 1) := by decide +kernel
theorem dX6_toppleWave_24 : decode cX6_toppleWave 24 = .ok (.iconst 1, 1) := by decide +kernel
theorem dX6_toppleWave_25 : decode cX6_toppleWave 25 = .ok (.iload_n 2, 1) := by decide +kernel
theorem dX6_toppleWave_26 : decode cX6_toppleWave 26 = .ok (.ishl, 1) := by decide +kernel
theorem dX6_toppleWave_27 : decode cX6_toppleWave 27 = .ok (.ior, 1) := by decide +kernel
theorem dX6_toppleWave_28 : decode cX6_toppleWave 28 = .ok (.istore_n 1, 1) := by decide +kernel
theorem dX7_init_0 : decode cX7_init 0 = .ok (.aload_n 0, 1) := by decide +kernel
theorem dX7_init_1 : decode cX7_init 1 = .ok (.invokespecial 3, 3) := by decide +kernel
theorem q_77 : (Jvm.Cond.methodLink "Chipfold$Rotors" (3 : Nat) ({ cls := "java/lang/Object", name := "<init>", desc := "()V" } : Jvm.MethodName)) ∈ WG := wg_1 (List.mem_of_getElem? (i := 165) (by decide +kernel)) (by decide +kernel)
theorem dX7_init_4 : decode cX7_init 4 = .ok (.aload_n 0, 1) := by decide +kernel
theorem dX7_init_5 : decode cX7_init 5 = .ok (.new 9, 3) := by decide +kernel
theorem q_78 : (Jvm.Cond.classLink "Chipfold$Rotors" (9 : Nat) "Chipfold$Row") ∈ WG := wg_1 (List.mem_of_getElem? (i := 166) (by decide +kernel)) (by decide +kernel)
theorem dX7_init_8 : decode cX7_init 8 = .ok (.dup, 1) := by decide +kernel
theorem dX7_init_9 : decode cX7_init 9 = .ok (.bipush 6, 2) := by decide +kernel
theorem dX7_init_11 : decode cX7_init 11 = .ok (.invokespecial 11, 3) := by decide +kernel
theorem q_79 : (Jvm.Cond.methodLink "Chipfold$Rotors" (11 : Nat) ({ cls := "Chipfold$Row", name := "<init>", desc := "(I)V" } : Jvm.MethodName)) ∈ WG := wg_1 (List.mem_of_getElem? (i := 167) (by decide +kernel)) (by decide +kernel)
theorem dX7_init_14 : decode cX7_init 14 = .ok (.putfield 14, 3) := by decide +kernel
theorem q_80 : (Jvm.Cond.fieldLink "Chipfold$Rotors" (14 : Nat) "Chipfold$Rotors" "pointed" "LChipfold$Row;") ∈ WG := wg_1 (List.mem_of_getElem? (i := 169) (by decide +kernel)) (by decide +kernel)
theorem inX7 : ∀ w ∈ u_ws RX7 TX7 3, w ∈ WG := by decide +kernel
theorem dX7_init_17 : decode cX7_init 17 = .ok (.aload_n 0, 1) := by decide +kernel
theorem dX7_init_18 : decode cX7_init 18 = .ok (.new 9, 3) := by decide +kernel
theorem dX7_init_21 : decode cX7_init 21 = .ok (.dup, 1) := by decide +kernel
theorem dX7_init_22 : decode cX7_init 22 = .ok (.bipush 6, 2) := by decide +kernel
theorem dX7_init_24 : decode cX7_init 24 = .ok (.invokespecial 11, 3) := by decide +kernel
theorem dX7_init_27 : decode cX7_init 27 = .ok (.putfield 20, 3) := by decide +kernel
theorem q_81 : (Jvm.Cond.fieldLink "Chipfold$Rotors" (20 : Nat) "Chipfold$Rotors" "visited" "LChipfold$Row;") ∈ WG := wg_1 (List.mem_of_getElem? (i := 170) (by decide +kernel)) (by decide +kernel)
theorem dX7_init_30 : decode cX7_init 30 = .ok (.aload_n 0, 1) := by decide +kernel
theorem dX7_init_31 : decode cX7_init 31 = .ok (.aload_n 1, 1) := by decide +kernel
theorem dX7_init_32 : decode cX7_init 32 = .ok (.putfield 23, 3) := by decide +kernel
theorem q_82 : (Jvm.Cond.fieldLink "Chipfold$Rotors" (23 : Nat) "Chipfold$Rotors" "graph" "LChipfold$Graph;") ∈ WG := wg_1 (List.mem_of_getElem? (i := 168) (by decide +kernel)) (by decide +kernel)
theorem dX7_init_35 : decode cX7_init 35 = .ok (.return_, 1) := by decide +kernel
theorem dX7_clear_0 : decode cX7_clear 0 = .ok (.aload_n 0, 1) := by decide +kernel
theorem dX7_clear_1 : decode cX7_clear 1 = .ok (.getfield 14, 3) := by decide +kernel
theorem dX7_clear_4 : decode cX7_clear 4 = .ok (.iconst 0, 1) := by decide +kernel
theorem dX7_clear_5 : decode cX7_clear 5 = .ok (.invokevirtual 27, 3) := by decide +kernel
theorem q_83 : (Jvm.Cond.methodLink "Chipfold$Rotors" (27 : Nat) ({ cls := "Chipfold$Row", name := "fill", desc := "(I)V" } : Jvm.MethodName)) ∈ WG := wg_3 (List.mem_of_getElem? (i := 116) (by decide +kernel)) (by decide +kernel)
theorem dX7_clear_8 : decode cX7_clear 8 = .ok (.aload_n 0, 1) := by decide +kernel
theorem dX7_clear_9 : decode cX7_clear 9 = .ok (.getfield 20, 3) := by decide +kernel
theorem dX7_clear_12 : decode cX7_clear 12 = .ok (.iconst 0, 1) := by decide +kernel
theorem dX7_clear_13 : decode cX7_clear 13 = .ok (.invokevirtual 27, 3) := by decide +kernel
theorem dX7_clear_16 : decode cX7_clear 16 = .ok (.return_, 1) := by decide +kernel
theorem dX0_clear_0 : decode cX0_clear 0 = .ok (.aload_n 0, 1) := by decide +kernel
theorem dX0_clear_1 : decode cX0_clear 1 = .ok (.getfield 14, 3) := by decide +kernel
theorem q_84 : (Jvm.Cond.fieldLink "Chipfold$Debts" (14 : Nat) "Chipfold$Debts" "owned" "LChipfold$Row;") ∈ WG := wg_1 (List.mem_of_getElem? (i := 190) (by decide +kernel)) (by decide +kernel)
theorem inX0 : ∀ w ∈ u_ws RX0 TX0 7, w ∈ WG := by decide +kernel
theorem dX0_clear_4 : decode cX0_clear 4 = .ok (.iconst 0, 1) := by decide +kernel
theorem dX0_clear_5 : decode cX0_clear 5 = .ok (.invokevirtual 46, 3) := by decide +kernel
theorem q_85 : (Jvm.Cond.methodLink "Chipfold$Debts" (46 : Nat) ({ cls := "Chipfold$Row", name := "fill", desc := "(I)V" } : Jvm.MethodName)) ∈ WG := wg_2 (List.mem_of_getElem? (i := 204) (by decide +kernel)) (by decide +kernel)
theorem dX0_clear_8 : decode cX0_clear 8 = .ok (.return_, 1) := by decide +kernel
set_option maxRecDepth 100000 in
set_option maxHeartbeats 400000 in
theorem c_X6_init {l : Launch} {D : va_G} {k : Nat → ClassId} (pp : Nat) (h : Nat)  : CM l D k yX6_init cX6_init 2 none  2 33 [.ref pp, .ref h] [(pp, .inr (10, [.null, .null, .null, .int 0]))] (fun rv9 w9 => rv9 = none ∧ ∃ (r1 : Nat) (a1 : Nat) (r2 : Nat) (a2 : Nat), w9 = [(pp, .inr (10, [.ref h, .ref r1, .ref r2, .int 0])), (r1, .inr (12, [.ref a1])), (a1, aI k 6 (fun _ => 0)), (r2, .inr (12, [.ref a2])), (a2, aI k 6 (fun _ => 0))]) 4 14 4 := by
  refine CM.of (lv0 := [(0, .ref pp), (1, .ref h)]) (by decide +kernel) (Nat.le_of_ble_eq_true rfl) rfl ?_
  intro p e s m below meth c C hr hlk hin had
  refine g_aload_n (pc := 0) C 0 rfl rfl dX6_init_0 ?_
  refine g_obj (pc := 1) C q_28 q_2 q_3 (Nat.le_of_ble_eq_true rfl) (Nat.le_of_ble_eq_true rfl) dX6_init_1 ?_
  refine g_aload_n (pc := 4) C 0 rfl rfl dX6_init_4 ?_
  refine g_new (pc := 5) (ci := 12) (cells := 0) (slots := 0) (g := 0) C [.null] (T := TX8) inX8 tyX8 tyX8_ok q_30 q_29 q_6 rfl (fun j hj => by rcases (show j = 0 by omega) with rfl <;> rfl) (Nat.le_of_ble_eq_true rfl) (Nat.le_of_ble_eq_true rfl) dX6_init_5 (fun q1 => ?_)
  refine G.eqw (ws' := [(pp, .inr (10, [.null, .null, .null, .int 0])), (q1, .inr (12, [.null]))]) rfl ?_
  refine g_dup (pc := 8) C rfl dX6_init_8 ?_
  refine g_bipush (pc := 9) (v := 6) C (by decide) dX6_init_9 ?_
  refine g_callI (pc := 11) (cells := 1) (slots := 1) (g := 1) (As := [.int 6]) (st := [.ref q1, .ref pp]) C (nA := 1) rfl (c_X8_init_6 q1 ) q_32 q_33 q_6 q_31 rfl rfl (by decide +kernel) dX6_init_11 ⟨Nat.le_of_ble_eq_true rfl, Nat.le_of_ble_eq_true rfl⟩ [1] [0] rfl (wr := [(pp, .inr (10, [.null, .null, .null, .int 0]))]) rfl (by decide) (by decide) (by decide) (Nat.le_of_ble_eq_true rfl) ⟨Nat.le_of_ble_eq_true rfl, Nat.le_of_ble_eq_true rfl⟩ (fun rv w1 h1 => ?_)
  obtain ⟨rfl, q2, rfl⟩ := h1
  refine G.aft [0, 1, 2] (ws' := [(pp, .inr (10, [.null, .null, .null, .int 0])), (q1, .inr (12, [.ref q2])), (q2, aI k 6 (fun _ => 0))]) (st' := [.ref q1, .ref pp]) (cells' := 2) (slots' := 7) (g' := 2) (by decide) rfl rfl rfl rfl rfl ?_
  refine g_putF (pc := 14) C (T := TX6) inX6 0 rfl rfl 1 (by decide) q_34 rfl tyX6 tyX6_ok nmX6 rfl hin rfl [(pp, .inr (10, [.null, .ref q1, .null, .int 0])), (q1, .inr (12, [.ref q2])), (q2, aI k 6 (fun _ => 0))] (tyX6_ok 1 (by decide)) rfl rfl (Nat.le_of_ble_eq_true rfl) rfl dX6_init_14 ?_
  refine g_aload_n (pc := 17) C 0 rfl rfl dX6_init_17 ?_
  refine g_new (pc := 18) (ci := 12) (cells := 2) (slots := 7) (g := 2) C [.null] (T := TX8) inX8 tyX8 tyX8_ok q_30 q_29 q_6 rfl (fun j hj => by rcases (show j = 0 by omega) with rfl <;> rfl) (Nat.le_of_ble_eq_true rfl) (Nat.le_of_ble_eq_true rfl) dX6_init_18 (fun q3 => ?_)
  refine G.eqw (ws' := [(pp, .inr (10, [.null, .ref q1, .null, .int 0])), (q1, .inr (12, [.ref q2])), (q2, aI k 6 (fun _ => 0)), (q3, .inr (12, [.null]))]) rfl ?_
  refine g_dup (pc := 21) C rfl dX6_init_21 ?_
  refine g_bipush (pc := 22) (v := 6) C (by decide) dX6_init_22 ?_
  refine g_callI (pc := 24) (cells := 3) (slots := 8) (g := 3) (As := [.int 6]) (st := [.ref q3, .ref pp]) C (nA := 1) rfl (c_X8_init_6 q3 ) q_32 q_33 q_6 q_31 rfl rfl (by decide +kernel) dX6_init_24 ⟨Nat.le_of_ble_eq_true rfl, Nat.le_of_ble_eq_true rfl⟩ [3] [0, 1, 2] rfl (wr := [(pp, .inr (10, [.null, .ref q1, .null, .int 0])), (q1, .inr (12, [.ref q2])), (q2, aI k 6 (fun _ => 0))]) rfl (by decide) (by decide) (by decide) (Nat.le_of_ble_eq_true rfl) ⟨Nat.le_of_ble_eq_true rfl, Nat.le_of_ble_eq_true rfl⟩ (fun rv w1 h1 => ?_)
  obtain ⟨rfl, q4, rfl⟩ := h1
  refine G.aft [0, 1, 2, 3, 4] (ws' := [(pp, .inr (10, [.null, .ref q1, .null, .int 0])), (q1, .inr (12, [.ref q2])), (q2, aI k 6 (fun _ => 0)), (q3, .inr (12, [.ref q4])), (q4, aI k 6 (fun _ => 0))]) (st' := [.ref q3, .ref pp]) (cells' := 4) (slots' := 14) (g' := 4) (by decide) rfl rfl rfl rfl rfl ?_
  refine g_putF (pc := 27) C (T := TX6) inX6 0 rfl rfl 2 (by decide) q_35 rfl tyX6 tyX6_ok nmX6 rfl hin rfl [(pp, .inr (10, [.null, .ref q1, .ref q3, .int 0])), (q1, .inr (12, [.ref q2])), (q2, aI k 6 (fun _ => 0)), (q3, .inr (12, [.ref q4])), (q4, aI k 6 (fun _ => 0))] (tyX6_ok 2 (by decide)) rfl rfl (Nat.le_of_ble_eq_true rfl) rfl dX6_init_27 ?_
  refine g_aload_n (pc := 30) C 0 rfl rfl dX6_init_30 ?_
  refine g_iconst (pc := 31) (v := 0) C (by decide) dX6_init_31 ?_
  refine g_put (pc := 32) C (T := TX6) inX6 0 rfl rfl 3 (by decide) q_36 rfl tyX6 tyX6_ok nmX6 rfl [(pp, .inr (10, [.null, .ref q1, .ref q3, .int 0])), (q1, .inr (12, [.ref q2])), (q2, aI k 6 (fun _ => 0)), (q3, .inr (12, [.ref q4])), (q4, aI k 6 (fun _ => 0))] (tyX6_ok 3 (by decide)) rfl (by rfl) (Nat.le_of_ble_eq_true rfl) rfl dX6_init_32 ?_
  refine g_aload_n (pc := 35) C 0 rfl rfl dX6_init_35 ?_
  refine g_aload_n (pc := 36) C 1 rfl rfl dX6_init_36 ?_
  refine g_putF (pc := 37) C (T := TX6) inX6 0 rfl rfl 0 (by decide) q_37 rfl tyX6 tyX6_ok nmX6 rfl hin rfl [(pp, .inr (10, [.ref h, .ref q1, .ref q3, .int 0])), (q1, .inr (12, [.ref q2])), (q2, aI k 6 (fun _ => 0)), (q3, .inr (12, [.ref q4])), (q4, aI k 6 (fun _ => 0))] (tyX6_ok 0 (by decide)) rfl rfl (Nat.le_of_ble_eq_true rfl) rfl dX6_init_37 ?_
  exact g_vret (pc := 40) C hr hlk (by first | decide | omega) (by first | decide | omega) (by first | decide | omega) dX6_init_40 ⟨rfl, q1, q2, q3, q4, rfl⟩
set_option maxRecDepth 100000 in
set_option maxHeartbeats 400000 in
theorem c_X6_clear {l : Launch} {D : va_G} {k : Nat → ClassId} (h : Nat) (pp : Nat) (r1 : Nat) (a1 : Nat) (r2 : Nat) (a2 : Nat) (f : Nat → Int32) (ct : Nat → Int32) (tk : Int32)  : CM l D k yX6_clear cX6_clear 1 none  1 22 [.ref pp] [(pp, .inr (10, [.ref h, .ref r1, .ref r2, .int tk])), (r1, .inr (12, [.ref a1])), (a1, aI k 6 f), (r2, .inr (12, [.ref a2])), (a2, aI k 6 ct)] (is1 none [(pp, .inr (10, [.ref h, .ref r1, .ref r2, .int 0])), (r1, .inr (12, [.ref a1])), (a1, aI k 6 (fun _ => 0)), (r2, .inr (12, [.ref a2])), (a2, aI k 6 (fun _ => 0))]) 0 0 0 := by
  refine CM.of (lv0 := [(0, .ref pp)]) (by decide +kernel) (Nat.le_of_ble_eq_true rfl) rfl ?_
  intro p e s m below meth c C hr hlk hin had
  refine g_aload_n (pc := 0) C 0 rfl rfl dX6_clear_0 ?_
  refine g_get (pc := 1) C (T := TX6) inX6 0 rfl rfl 1 (by decide) q_34 rfl rfl dX6_clear_1 ?_
  refine g_iconst (pc := 4) (v := 0) C (by decide) dX6_clear_4 ?_
  refine g_callV (pc := 5) (cells := 0) (slots := 0) (g := 0) (As := [.int 0]) (st := []) (T := TX8) (q0 := 1) C (nA := 1) rfl (c_X8_fill r1 a1 6 f 0 (by first | assumption | decide | omega)) q_40 q_41 q_39 q_6 q_38 (by decide +kernel) rfl rfl dX6_clear_5 ⟨Nat.le_of_ble_eq_true rfl, Nat.le_of_ble_eq_true rfl⟩ [1, 2] [0, 3, 4] rfl (wr := [(pp, .inr (10, [.ref h, .ref r1, .ref r2, .int tk])), (r2, .inr (12, [.ref a2])), (a2, aI k 6 ct)]) rfl (by decide) (by decide) (by decide) (Nat.le_of_ble_eq_true rfl) ⟨Nat.le_of_ble_eq_true rfl, Nat.le_of_ble_eq_true rfl⟩ (fun rv w1 h1 => ?_)
  obtain ⟨rfl, rfl⟩ := h1
  refine G.aft [0, 3, 4, 1, 2] (ws' := [(pp, .inr (10, [.ref h, .ref r1, .ref r2, .int tk])), (r1, .inr (12, [.ref a1])), (a1, aI k 6 (fun _ => 0)), (r2, .inr (12, [.ref a2])), (a2, aI k 6 ct)]) (st' := []) (cells' := 0) (slots' := 0) (g' := 0) (by decide) rfl rfl rfl rfl rfl ?_
  refine g_aload_n (pc := 8) C 0 rfl rfl dX6_clear_8 ?_
  refine g_get (pc := 9) C (T := TX6) inX6 0 rfl rfl 2 (by decide) q_35 rfl rfl dX6_clear_9 ?_
  refine g_iconst (pc := 12) (v := 0) C (by decide) dX6_clear_12 ?_
  refine g_callV (pc := 13) (cells := 0) (slots := 0) (g := 0) (As := [.int 0]) (st := []) (T := TX8) (q0 := 3) C (nA := 1) rfl (c_X8_fill r2 a2 6 ct 0 (by first | assumption | decide | omega)) q_40 q_41 q_39 q_6 q_38 (by decide +kernel) rfl rfl dX6_clear_13 ⟨Nat.le_of_ble_eq_true rfl, Nat.le_of_ble_eq_true rfl⟩ [3, 4] [0, 1, 2] rfl (wr := [(pp, .inr (10, [.ref h, .ref r1, .ref r2, .int tk])), (r1, .inr (12, [.ref a1])), (a1, aI k 6 (fun _ => 0))]) rfl (by decide) (by decide) (by decide) (Nat.le_of_ble_eq_true rfl) ⟨Nat.le_of_ble_eq_true rfl, Nat.le_of_ble_eq_true rfl⟩ (fun rv w1 h1 => ?_)
  obtain ⟨rfl, rfl⟩ := h1
  refine G.aft [0, 1, 2, 3, 4] (ws' := [(pp, .inr (10, [.ref h, .ref r1, .ref r2, .int tk])), (r1, .inr (12, [.ref a1])), (a1, aI k 6 (fun _ => 0)), (r2, .inr (12, [.ref a2])), (a2, aI k 6 (fun _ => 0))]) (st' := []) (cells' := 0) (slots' := 0) (g' := 0) (by decide) rfl rfl rfl rfl rfl ?_
  refine g_aload_n (pc := 16) C 0 rfl rfl dX6_clear_16 ?_
  refine g_iconst (pc := 17) (v := 0) C (by decide) dX6_clear_17 ?_
  refine g_put (pc := 18) C (T := TX6) inX6 0 rfl rfl 3 (by decide) q_36 rfl tyX6 tyX6_ok nmX6 rfl [(pp, .inr (10, [.ref h, .ref r1, .ref r2, .int 0])), (r1, .inr (12, [.ref a1])), (a1, aI k 6 (fun _ => 0)), (r2, .inr (12, [.ref a2])), (a2, aI k 6 (fun _ => 0))] (tyX6_ok 3 (by decide)) rfl (by rfl) (Nat.le_of_ble_eq_true rfl) rfl dX6_clear_18 ?_
  exact g_vret (pc := 21) C hr hlk (by first | decide | omega) (by first | decide | omega) (by first | decide | omega) dX6_clear_21 ⟨rfl, rfl⟩
set_option maxRecDepth 100000 in
set_option maxHeartbeats 400000 in
theorem c_X6_copyChips {l : Launch} {D : va_G} {k : Nat → ClassId} (h : Nat) (pp : Nat) (r1 : Nat) (a1 : Nat) (r2 : Nat) (a2 : Nat) (f : Nat → Int32) (ct : Nat → Int32) (tk : Int32) (p2 : Nat) (r3 : Nat) (r4 : Nat) (a3 : Nat) (f2 : Nat → Int32) (tk2 : Int32)  : CM l D k yX6_copyChips cX6_copyChips 2 none  2 43 [.ref pp, .ref p2] [(pp, .inr (10, [.ref h, .ref r1, .ref r2, .int tk])), (r1, .inr (12, [.ref a1])), (a1, aI k 6 f), (r2, .inr (12, [.ref a2])), (a2, aI k 6 ct), (p2, .inr (10, [.ref h, .ref r3, .ref r4, .int tk2])), (r3, .inr (12, [.ref a3])), (a3, aI k 6 f2)] (is1 none [(pp, .inr (10, [.ref h, .ref r1, .ref r2, .int 0])), (r1, .inr (12, [.ref a1])), (a1, aI k 6 f2), (r2, .inr (12, [.ref a2])), (a2, aI k 6 (fun _ => 0)), (p2, .inr (10, [.ref h, .ref r3, .ref r4, .int tk2])), (r3, .inr (12, [.ref a3])), (a3, aI k 6 f2)]) 0 0 0 := by
  refine CM.of (lv0 := [(0, .ref pp), (1, .ref p2)]) (by decide +kernel) (Nat.le_of_ble_eq_true rfl) rfl ?_
  intro p e s m below meth c C hr hlk hin had
  refine g_aload_n (pc := 0) C 0 rfl rfl dX6_copyChips_0 ?_
  refine g_callV (pc := 1) (cells := 0) (slots := 0) (g := 0) (As := []) (st := []) (T := TX6) (q0 := 0) C (nA := 0) rfl (c_X6_clear h pp r1 a1 r2 a2 f ct tk ) q_45 q_46 q_44 q_43 q_42 (by decide +kernel) rfl rfl dX6_copyChips_1 ⟨Nat.le_of_ble_eq_true rfl, Nat.le_of_ble_eq_true rfl⟩ [0, 1, 2, 3, 4] [5, 6, 7] rfl (wr := [(p2, .inr (10, [.ref h, .ref r3, .ref r4, .int tk2])), (r3, .inr (12, [.ref a3])), (a3, aI k 6 f2)]) rfl (by decide) (by decide) (by decide) (Nat.le_of_ble_eq_true rfl) ⟨Nat.le_of_ble_eq_true rfl, Nat.le_of_ble_eq_true rfl⟩ (fun rv w1 h1 => ?_)
  obtain ⟨rfl, rfl⟩ := h1
  refine G.aft [3, 4, 5, 6, 7, 0, 1, 2] (ws' := [(pp, .inr (10, [.ref h, .ref r1, .ref r2, .int 0])), (r1, .inr (12, [.ref a1])), (a1, aI k 6 (fun _ => 0)), (r2, .inr (12, [.ref a2])), (a2, aI k 6 (fun _ => 0)), (p2, .inr (10, [.ref h, .ref r3, .ref r4, .int tk2])), (r3, .inr (12, [.ref a3])), (a3, aI k 6 f2)]) (st' := []) (cells' := 0) (slots' := 0) (g' := 0) (by decide) rfl rfl rfl rfl rfl ?_
  refine g_aload_n (pc := 4) C 0 rfl rfl dX6_copyChips_4 ?_
  refine g_get (pc := 5) C (T := TX6) inX6 0 rfl rfl 1 (by decide) q_34 rfl rfl dX6_copyChips_5 ?_
  refine g_aload_n (pc := 8) C 1 rfl rfl dX6_copyChips_8 ?_
  refine g_get (pc := 9) C (T := TX6) inX6 5 rfl rfl 1 (by decide) q_34 rfl rfl dX6_copyChips_9 ?_
  refine g_callV (pc := 12) (cells := 0) (slots := 0) (g := 0) (As := [.ref r3]) (st := []) (T := TX8) (q0 := 1) C (nA := 1) rfl (c_X8_copy r1 a1 6 (fun _ => 0) r3 a3 f2 (by first | assumption | decide | omega)) q_49 q_50 q_48 q_6 q_47 (by decide +kernel) rfl rfl dX6_copyChips_12 ⟨Nat.le_of_ble_eq_true rfl, Nat.le_of_ble_eq_true rfl⟩ [1, 2, 6, 7] [0, 3, 4, 5] rfl (wr := [(pp, .inr (10, [.ref h, .ref r1, .ref r2, .int 0])), (r2, .inr (12, [.ref a2])), (a2, aI k 6 (fun _ => 0)), (p2, .inr (10, [.ref h, .ref r3, .ref r4, .int tk2]))]) rfl (by decide) (by decide) (by decide) (Nat.le_of_ble_eq_true rfl) ⟨Nat.le_of_ble_eq_true rfl, Nat.le_of_ble_eq_true rfl⟩ (fun rv w1 h1 => ?_)
  obtain ⟨rfl, rfl⟩ := h1
  refine G.aft [0, 4, 5, 1, 2, 3, 6, 7] (ws' := [(pp, .inr (10, [.ref h, .ref r1, .ref r2, .int 0])), (r1, .inr (12, [.ref a1])), (a1, aI k 6 f2), (r2, .inr (12, [.ref a2])), (a2, aI k 6 (fun _ => 0)), (p2, .inr (10, [.ref h, .ref r3, .ref r4, .int tk2])), (r3, .inr (12, [.ref a3])), (a3, aI k 6 f2)]) (st' := []) (cells' := 0) (slots' := 0) (g' := 0) (by decide) rfl rfl rfl rfl rfl ?_
  exact g_vret (pc := 15) C hr hlk (by first | decide | omega) (by first | decide | omega) (by first | decide | omega) dX6_copyChips_15 ⟨rfl, rfl⟩
set_option maxRecDepth 100000 in
set_option maxHeartbeats 400000 in
theorem c_X6_at {l : Launch} {D : va_G} {k : Nat → ClassId} (h : Nat) (pp : Nat) (r1 : Nat) (a1 : Nat) (r2 : Nat) (a2 : Nat) (f : Nat → Int32) (ct : Nat → Int32) (tk : Int32) (v : Nat) (hv : v < 6) : CM l D k yX6_at cX6_at 2 (some .int)  1 21 [.ref pp, .int (nI v)] [(pp, .inr (10, [.ref h, .ref r1, .ref r2, .int tk])), (r1, .inr (12, [.ref a1])), (a1, aI k 6 f), (r2, .inr (12, [.ref a2])), (a2, aI k 6 ct)] (is1 (some (.int (f v))) [(pp, .inr (10, [.ref h, .ref r1, .ref r2, .int tk])), (r1, .inr (12, [.ref a1])), (a1, aI k 6 f), (r2, .inr (12, [.ref a2])), (a2, aI k 6 ct)]) 0 0 0 := by
  refine CM.of (lv0 := [(0, .ref pp), (1, .int (nI v))]) (by decide +kernel) (Nat.le_of_ble_eq_true rfl) rfl ?_
  intro p e s m below meth c C hr hlk hin had
  refine g_aload_n (pc := 0) C 0 rfl rfl dX6_at_0 ?_
  refine g_get (pc := 1) C (T := TX6) inX6 0 rfl rfl 1 (by decide) q_34 rfl rfl dX6_at_1 ?_
  refine g_iload_n (pc := 4) C 1 rfl rfl dX6_at_4 ?_
  refine g_callV (pc := 5) (cells := 0) (slots := 0) (g := 0) (As := [.int (nI v)]) (st := []) (T := TX8) (q0 := 1) C (nA := 1) rfl (c_X8_at_n r1 a1 6 f v (by first | assumption | decide | omega) (by first | assumption | decide | omega)) q_51 q_9 q_7 q_6 q_5 (by decide +kernel) rfl rfl dX6_at_5 ⟨Nat.le_of_ble_eq_true rfl, Nat.le_of_ble_eq_true rfl⟩ [1, 2] [0, 3, 4] rfl (wr := [(pp, .inr (10, [.ref h, .ref r1, .ref r2, .int tk])), (r2, .inr (12, [.ref a2])), (a2, aI k 6 ct)]) rfl (by decide) (by decide) (by decide) (Nat.le_of_ble_eq_true rfl) ⟨Nat.le_of_ble_eq_true rfl, Nat.le_of_ble_eq_true rfl⟩ (fun rv w1 h1 => ?_)
  obtain ⟨rfl, rfl⟩ := h1
  refine G.aft [0, 3, 4, 1, 2] (ws' := [(pp, .inr (10, [.ref h, .ref r1, .ref r2, .int tk])), (r1, .inr (12, [.ref a1])), (a1, aI k 6 f), (r2, .inr (12, [.ref a2])), (a2, aI k 6 ct)]) (st' := [.int (f v)]) (cells' := 0) (slots' := 0) (g' := 0) (by decide) rfl rfl rfl rfl rfl ?_
  exact g_iret (pc := 8) C hr hlk (by first | decide | omega) (by first | decide | omega) (by first | decide | omega) dX6_at_8 ⟨rfl, rfl⟩
set_option maxRecDepth 100000 in
set_option maxHeartbeats 400000 in
theorem c_X6_receive {l : Launch} {D : va_G} {k : Nat → ClassId} (h : Nat) (jj : Nat) (dd : Nat) (n : Nat) (z : Nat) (fj : Nat → Int32) (fd : Nat → Int32) (pp : Nat) (r1 : Nat) (a1 : Nat) (r2 : Nat) (a2 : Nat) (f : Nat → Int32) (ct : Nat → Int32) (tk : Int32) (v : Nat) (x : Int32) (hv : v < 6) (hz : z < 6) : CM l D k yX6_receive cX6_receive 3 none  1 22 [.ref pp, .int (nI v), .int x] [(h, .inr (7, [.ref jj, .ref dd, .int (nI n), .int (nI z)])), (jj, aI k 36 fj), (dd, aI k 6 fd), (pp, .inr (10, [.ref h, .ref r1, .ref r2, .int tk])), (r1, .inr (12, [.ref a1])), (a1, aI k 6 f), (r2, .inr (12, [.ref a2])), (a2, aI k 6 ct)] (is1 none [(h, .inr (7, [.ref jj, .ref dd, .int (nI n), .int (nI z)])), (jj, aI k 36 fj), (dd, aI k 6 fd), (pp, .inr (10, [.ref h, .ref r1, .ref r2, .int (if v = z then tk + x else tk)])), (r1, .inr (12, [.ref a1])), (a1, aI k 6 (if v = z then f else upd f v (f v + x))), (r2, .inr (12, [.ref a2])), (a2, aI k 6 ct)]) 0 0 0 := by
  refine CM.of (lv0 := [(0, .ref pp), (1, .int (nI v)), (2, .int x)]) (by decide +kernel) (Nat.le_of_ble_eq_true rfl) rfl ?_
  intro p e s m below meth c C hr hlk hin had
  refine g_aload_n (pc := 0) C 0 rfl rfl dX6_receive_0 ?_
  refine g_get (pc := 1) C (T := TX6) inX6 3 rfl rfl 0 (by decide) q_37 rfl rfl dX6_receive_1 ?_
  refine g_iload_n (pc := 4) C 1 rfl rfl dX6_receive_4 ?_
  refine g_callV (pc := 5) (cells := 0) (slots := 0) (g := 0) (As := [.int (nI v)]) (st := []) (T := TX3) (q0 := 0) C (nA := 1) rfl (c_X3_isSink h jj dd n z fj fd v (by first | assumption | decide | omega) (by first | assumption | decide | omega)) q_54 q_55 q_53 q_16 q_52 (by decide +kernel) rfl rfl dX6_receive_5 ⟨Nat.le_of_ble_eq_true rfl, Nat.le_of_ble_eq_true rfl⟩ [0, 1, 2] [3, 4, 5, 6, 7] rfl (wr := [(pp, .inr (10, [.ref h, .ref r1, .ref r2, .int tk])), (r1, .inr (12, [.ref a1])), (a1, aI k 6 f), (r2, .inr (12, [.ref a2])), (a2, aI k 6 ct)]) rfl (by decide) (by decide) (by decide) (Nat.le_of_ble_eq_true rfl) ⟨Nat.le_of_ble_eq_true rfl, Nat.le_of_ble_eq_true rfl⟩ (fun rv w1 h1 => ?_)
  obtain ⟨rfl, rfl⟩ := h1
  refine G.aft [5, 6, 7, 0, 1, 2, 3, 4] (ws' := [(h, .inr (7, [.ref jj, .ref dd, .int (nI n), .int (nI z)])), (jj, aI k 36 fj), (dd, aI k 6 fd), (pp, .inr (10, [.ref h, .ref r1, .ref r2, .int tk])), (r1, .inr (12, [.ref a1])), (a1, aI k 6 f), (r2, .inr (12, [.ref a2])), (a2, aI k 6 ct)]) (st' := [.int (bI (decide (v = z)))]) (cells' := 0) (slots' := 0) (g' := 0) (by decide) rfl rfl rfl rfl rfl ?_
  refine g_if_eq (pc := 8) C 24 (by decide) dX6_receive_8 (fun c_8 => ?_) (fun c_8 => ?_)
  · simp only [bI_0, decide_eq_false_iff_not, decide_eq_true_eq, Bool.not_eq_false, Decidable.not_not] at c_8
    refine g_aload_n (pc := 24) C 0 rfl rfl dX6_receive_24 ?_
    refine g_get (pc := 25) C (T := TX6) inX6 3 rfl rfl 1 (by decide) q_34 rfl rfl dX6_receive_25 ?_
    refine g_iload_n (pc := 28) C 1 rfl rfl dX6_receive_28 ?_
    refine g_iload_n (pc := 29) C 2 rfl rfl dX6_receive_29 ?_
    refine g_callV (pc := 30) (cells := 0) (slots := 0) (g := 0) (As := [.int (nI v), .int x]) (st := []) (T := TX8) (q0 := 4) C (nA := 2) rfl (c_X8_add_n r1 a1 6 f v x (by first | assumption | decide | omega) (by first | assumption | decide | omega)) q_58 q_59 q_57 q_6 q_56 (by decide +kernel) rfl rfl dX6_receive_30 ⟨Nat.le_of_ble_eq_true rfl, Nat.le_of_ble_eq_true rfl⟩ [4, 5] [0, 1, 2, 3, 6, 7] rfl (wr := [(h, .inr (7, [.ref jj, .ref dd, .int (nI n), .int (nI z)])), (jj, aI k 36 fj), (dd, aI k 6 fd), (pp, .inr (10, [.ref h, .ref r1, .ref r2, .int tk])), (r2, .inr (12, [.ref a2])), (a2, aI k 6 ct)]) rfl (by decide) (by decide) (by decide) (Nat.le_of_ble_eq_true rfl) ⟨Nat.le_of_ble_eq_true rfl, Nat.le_of_ble_eq_true rfl⟩ (fun rv w1 h1 => ?_)
    obtain ⟨rfl, rfl⟩ := h1
    refine G.aft [0, 1, 2, 3, 6, 7, 4, 5] (ws' := [(h, .inr (7, [.ref jj, .ref dd, .int (nI n), .int (nI z)])), (jj, aI k 36 fj), (dd, aI k 6 fd), (pp, .inr (10, [.ref h, .ref r1, .ref r2, .int tk])), (r1, .inr (12, [.ref a1])), (a1, aI k 6 (upd f v (f v + x))), (r2, .inr (12, [.ref a2])), (a2, aI k 6 ct)]) (st' := []) (cells' := 0) (slots' := 0) (g' := 0) (by decide) rfl rfl rfl rfl rfl ?_
    refine G.eqw (ws' := [(h, .inr (7, [.ref jj, .ref dd, .int (nI n), .int (nI z)])), (jj, aI k 36 fj), (dd, aI k 6 fd), (pp, .inr (10, [.ref h, .ref r1, .ref r2, .int (if v = z then tk + x else tk)])), (r1, .inr (12, [.ref a1])), (a1, aI k 6 (upd f v (f v + x))), (r2, .inr (12, [.ref a2])), (a2, aI k 6 ct)]) (congrArg (β := va_W) (fun z9 => [(h, .inr (7, [.ref jj, .ref dd, .int (nI n), .int (nI z)])), (jj, aI k 36 fj), (dd, aI k 6 fd), (pp, .inr (10, [.ref h, .ref r1, .ref r2, .int z9])), (r1, .inr (12, [.ref a1])), (a1, aI k 6 (upd f v (f v + x))), (r2, .inr (12, [.ref a2])), (a2, aI k 6 ct)]) (show (tk : Int32) = (if v = z then tk + x else tk) from by simp [c_8])) ?_
    refine G.fn (if v = z then f else upd f v (f v + x)) 5 [(h, .inr (7, [.ref jj, .ref dd, .int (nI n), .int (nI z)])), (jj, aI k 36 fj), (dd, aI k 6 fd), (pp, .inr (10, [.ref h, .ref r1, .ref r2, .int (if v = z then tk + x else tk)])), (r1, .inr (12, [.ref a1])), (a1, aI k 6 (if v = z then f else upd f v (f v + x))), (r2, .inr (12, [.ref a2])), (a2, aI k 6 ct)] rfl (fun j hj => by simp [c_8]) rfl ?_
    exact g_vret (pc := 33) C hr hlk (by first | decide | omega) (by first | decide | omega) (by first | decide | omega) dX6_receive_33 ⟨rfl, rfl⟩
  · simp only [bI_0, decide_eq_false_iff_not, decide_eq_true_eq, Bool.not_eq_false, Decidable.not_not] at c_8
    refine g_aload_n (pc := 11) C 0 rfl rfl dX6_receive_11 ?_
    refine g_dup (pc := 12) C rfl dX6_receive_12 ?_
    refine g_get (pc := 13) C (T := TX6) inX6 3 rfl rfl 3 (by decide) q_36 rfl rfl dX6_receive_13 ?_
    refine g_iload_n (pc := 16) C 2 rfl rfl dX6_receive_16 ?_
    refine g_iadd (pc := 17) C dX6_receive_17 ?_
    refine g_put (pc := 18) C (T := TX6) inX6 3 rfl rfl 3 (by decide) q_36 rfl tyX6 tyX6_ok nmX6 rfl [(h, .inr (7, [.ref jj, .ref dd, .int (nI n), .int (nI z)])), (jj, aI k 36 fj), (dd, aI k 6 fd), (pp, .inr (10, [.ref h, .ref r1, .ref r2, .int (tk + x)])), (r1, .inr (12, [.ref a1])), (a1, aI k 6 f), (r2, .inr (12, [.ref a2])), (a2, aI k 6 ct)] (tyX6_ok 3 (by decide)) rfl (by rfl) (Nat.le_of_ble_eq_true rfl) rfl dX6_receive_18 ?_
    refine g_goto (pc := 21) C 33 (by decide) dX6_receive_21 ?_
    refine G.eqw (ws' := [(h, .inr (7, [.ref jj, .ref dd, .int (nI n), .int (nI z)])), (jj, aI k 36 fj), (dd, aI k 6 fd), (pp, .inr (10, [.ref h, .ref r1, .ref r2, .int (if v = z then tk + x else tk)])), (r1, .inr (12, [.ref a1])), (a1, aI k 6 f), (r2, .inr (12, [.ref a2])), (a2, aI k 6 ct)]) (congrArg (β := va_W) (fun z9 => [(h, .inr (7, [.ref jj, .ref dd, .int (nI n), .int (nI z)])), (jj, aI k 36 fj), (dd, aI k 6 fd), (pp, .inr (10, [.ref h, .ref r1, .ref r2, .int z9])), (r1, .inr (12, [.ref a1])), (a1, aI k 6 f), (r2, .inr (12, [.ref a2])), (a2, aI k 6 ct)]) (show ((tk + x) : Int32) = (if v = z then tk + x else tk) from by simp [c_8])) ?_
    refine G.fn (if v = z then f else upd f v (f v + x)) 5 [(h, .inr (7, [.ref jj, .ref dd, .int (nI n), .int (nI z)])), (jj, aI k 36 fj), (dd, aI k 6 fd), (pp, .inr (10, [.ref h, .ref r1, .ref r2, .int (if v = z then tk + x else tk)])), (r1, .inr (12, [.ref a1])), (a1, aI k 6 (if v = z then f else upd f v (f v + x))), (r2, .inr (12, [.ref a2])), (a2, aI k 6 ct)] rfl (fun j hj => by simp [c_8]) rfl ?_
    exact g_vret (pc := 33) C hr hlk (by first | decide | omega) (by first | decide | omega) (by first | decide | omega) dX6_receive_33 ⟨rfl, rfl⟩
set_option maxRecDepth 100000 in
set_option maxHeartbeats 400000 in
theorem c_X6_receive_o {l : Launch} {D : va_G} {k : Nat → ClassId} (h : Nat) (jj : Nat) (dd : Nat) (n : Nat) (z : Nat) (fj : Nat → Int32) (fd : Nat → Int32) (pp : Nat) (r1 : Nat) (a1 : Nat) (r2 : Nat) (a2 : Nat) (f : Nat → Int32) (ct : Nat → Int32) (tk : Int32) (v : Nat) (x : Int32) (hv : v < 6) (hz : z < 6) (hvz : ¬ v = z) : CM l D k yX6_receive cX6_receive 3 none  1 22 [.ref pp, .int (nI v), .int x] [(h, .inr (7, [.ref jj, .ref dd, .int (nI n), .int (nI z)])), (jj, aI k 36 fj), (dd, aI k 6 fd), (pp, .inr (10, [.ref h, .ref r1, .ref r2, .int tk])), (r1, .inr (12, [.ref a1])), (a1, aI k 6 f), (r2, .inr (12, [.ref a2])), (a2, aI k 6 ct)] (is1 none [(h, .inr (7, [.ref jj, .ref dd, .int (nI n), .int (nI z)])), (jj, aI k 36 fj), (dd, aI k 6 fd), (pp, .inr (10, [.ref h, .ref r1, .ref r2, .int tk])), (r1, .inr (12, [.ref a1])), (a1, aI k 6 (upd f v (f v + x))), (r2, .inr (12, [.ref a2])), (a2, aI k 6 ct)]) 0 0 0 := by
  refine CM.of (lv0 := [(0, .ref pp), (1, .int (nI v)), (2, .int x)]) (by decide +kernel) (Nat.le_of_ble_eq_true rfl) rfl ?_
  intro p e s m below meth c C hr hlk hin had
  refine g_aload_n (pc := 0) C 0 rfl rfl dX6_receive_0 ?_
  refine g_get (pc := 1) C (T := TX6) inX6 3 rfl rfl 0 (by decide) q_37 rfl rfl dX6_receive_1 ?_
  refine g_iload_n (pc := 4) C 1 rfl rfl dX6_receive_4 ?_
  refine g_callV (pc := 5) (cells := 0) (slots := 0) (g := 0) (As := [.int (nI v)]) (st := []) (T := TX3) (q0 := 0) C (nA := 1) rfl (c_X3_isSink h jj dd n z fj fd v (by first | assumption | decide | omega) (by first | assumption | decide | omega)) q_54 q_55 q_53 q_16 q_52 (by decide +kernel) rfl rfl dX6_receive_5 ⟨Nat.le_of_ble_eq_true rfl, Nat.le_of_ble_eq_true rfl⟩ [0, 1, 2] [3, 4, 5, 6, 7] rfl (wr := [(pp, .inr (10, [.ref h, .ref r1, .ref r2, .int tk])), (r1, .inr (12, [.ref a1])), (a1, aI k 6 f), (r2, .inr (12, [.ref a2])), (a2, aI k 6 ct)]) rfl (by decide) (by decide) (by decide) (Nat.le_of_ble_eq_true rfl) ⟨Nat.le_of_ble_eq_true rfl, Nat.le_of_ble_eq_true rfl⟩ (fun rv w1 h1 => ?_)
  obtain ⟨rfl, rfl⟩ := h1
  refine G.aft [5, 6, 7, 0, 1, 2, 3, 4] (ws' := [(h, .inr (7, [.ref jj, .ref dd, .int (nI n), .int (nI z)])), (jj, aI k 36 fj), (dd, aI k 6 fd), (pp, .inr (10, [.ref h, .ref r1, .ref r2, .int tk])), (r1, .inr (12, [.ref a1])), (a1, aI k 6 f), (r2, .inr (12, [.ref a2])), (a2, aI k 6 ct)]) (st' := [.int (bI (decide (v = z)))]) (cells' := 0) (slots' := 0) (g' := 0) (by decide) rfl rfl rfl rfl rfl ?_
  refine g_if_eq (pc := 8) C 24 (by decide) dX6_receive_8 (fun c_8 => ?_) (fun c_8 => ?_)
  · refine g_aload_n (pc := 24) C 0 rfl rfl dX6_receive_24 ?_
    refine g_get (pc := 25) C (T := TX6) inX6 3 rfl rfl 1 (by decide) q_34 rfl rfl dX6_receive_25 ?_
    refine g_iload_n (pc := 28) C 1 rfl rfl dX6_receive_28 ?_
    refine g_iload_n (pc := 29) C 2 rfl rfl dX6_receive_29 ?_
    refine g_callV (pc := 30) (cells := 0) (slots := 0) (g := 0) (As := [.int (nI v), .int x]) (st := []) (T := TX8) (q0 := 4) C (nA := 2) rfl (c_X8_add_n r1 a1 6 f v x (by first | assumption | decide | omega) (by first | assumption | decide | omega)) q_58 q_59 q_57 q_6 q_56 (by decide +kernel) rfl rfl dX6_receive_30 ⟨Nat.le_of_ble_eq_true rfl, Nat.le_of_ble_eq_true rfl⟩ [4, 5] [0, 1, 2, 3, 6, 7] rfl (wr := [(h, .inr (7, [.ref jj, .ref dd, .int (nI n), .int (nI z)])), (jj, aI k 36 fj), (dd, aI k 6 fd), (pp, .inr (10, [.ref h, .ref r1, .ref r2, .int tk])), (r2, .inr (12, [.ref a2])), (a2, aI k 6 ct)]) rfl (by decide) (by decide) (by decide) (Nat.le_of_ble_eq_true rfl) ⟨Nat.le_of_ble_eq_true rfl, Nat.le_of_ble_eq_true rfl⟩ (fun rv w1 h1 => ?_)
    obtain ⟨rfl, rfl⟩ := h1
    refine G.aft [0, 1, 2, 3, 6, 7, 4, 5] (ws' := [(h, .inr (7, [.ref jj, .ref dd, .int (nI n), .int (nI z)])), (jj, aI k 36 fj), (dd, aI k 6 fd), (pp, .inr (10, [.ref h, .ref r1, .ref r2, .int tk])), (r1, .inr (12, [.ref a1])), (a1, aI k 6 (upd f v (f v + x))), (r2, .inr (12, [.ref a2])), (a2, aI k 6 ct)]) (st' := []) (cells' := 0) (slots' := 0) (g' := 0) (by decide) rfl rfl rfl rfl rfl ?_
    exact g_vret (pc := 33) C hr hlk (by first | decide | omega) (by first | decide | omega) (by first | decide | omega) dX6_receive_33 ⟨rfl, rfl⟩
  · exact absurd (show bI (decide (v = z)) = 0 by simp [bI_0, hvz]) c_8
/-- whether a vertex can topple -/
def cTop (z : Nat) (fd f : Nat → Int32) (v : Nat) : Bool := decide (¬ v = z) && (decide (¬ fd v ≤ 0) && decide (¬ f v < fd v))
set_option maxRecDepth 100000 in
set_option maxHeartbeats 400000 in
theorem c_X6_canTopple {l : Launch} {D : va_G} {k : Nat → ClassId} (h : Nat) (jj : Nat) (dd : Nat) (n : Nat) (z : Nat) (fj : Nat → Int32) (fd : Nat → Int32) (pp : Nat) (r1 : Nat) (a1 : Nat) (r2 : Nat) (a2 : Nat) (f : Nat → Int32) (ct : Nat → Int32) (tk : Int32) (v : Nat) (hv : v < 6) (hz : z < 6) : CM l D k yX6_canTopple cX6_canTopple 3 (some .boolean)  1 21 [.ref pp, .int (nI v)] [(h, .inr (7, [.ref jj, .ref dd, .int (nI n), .int (nI z)])), (jj, aI k 36 fj), (dd, aI k 6 fd), (pp, .inr (10, [.ref h, .ref r1, .ref r2, .int tk])), (r1, .inr (12, [.ref a1])), (a1, aI k 6 f), (r2, .inr (12, [.ref a2])), (a2, aI k 6 ct)] (is1 (some (.int (bI (cTop z fd f v)))) [(h, .inr (7, [.ref jj, .ref dd, .int (nI n), .int (nI z)])), (jj, aI k 36 fj), (dd, aI k 6 fd), (pp, .inr (10, [.ref h, .ref r1, .ref r2, .int tk])), (r1, .inr (12, [.ref a1])), (a1, aI k 6 f), (r2, .inr (12, [.ref a2])), (a2, aI k 6 ct)]) 0 0 0 := by
  refine CM.of (lv0 := [(0, .ref pp), (1, .int (nI v))]) (by decide +kernel) (Nat.le_of_ble_eq_true rfl) rfl ?_
  intro p e s m below meth c C hr hlk hin had
  refine g_aload_n (pc := 0) C 0 rfl rfl dX6_canTopple_0 ?_
  refine g_get (pc := 1) C (T := TX6) inX6 3 rfl rfl 0 (by decide) q_37 rfl rfl dX6_canTopple_1 ?_
  refine g_iload_n (pc := 4) C 1 rfl rfl dX6_canTopple_4 ?_
  refine g_callV (pc := 5) (cells := 0) (slots := 0) (g := 0) (As := [.int (nI v)]) (st := []) (T := TX3) (q0 := 0) C (nA := 1) rfl (c_X3_degreeOf h jj dd n z fj fd v (by first | assumption | decide | omega)) q_62 q_63 q_61 q_16 q_60 (by decide +kernel) rfl rfl dX6_canTopple_5 ⟨Nat.le_of_ble_eq_true rfl, Nat.le_of_ble_eq_true rfl⟩ [0, 1, 2] [3, 4, 5, 6, 7] rfl (wr := [(pp, .inr (10, [.ref h, .ref r1, .ref r2, .int tk])), (r1, .inr (12, [.ref a1])), (a1, aI k 6 f), (r2, .inr (12, [.ref a2])), (a2, aI k 6 ct)]) rfl (by decide) (by decide) (by decide) (Nat.le_of_ble_eq_true rfl) ⟨Nat.le_of_ble_eq_true rfl, Nat.le_of_ble_eq_true rfl⟩ (fun rv w1 h1 => ?_)
  obtain ⟨rfl, rfl⟩ := h1
  refine G.aft [5, 6, 7, 0, 1, 2, 3, 4] (ws' := [(h, .inr (7, [.ref jj, .ref dd, .int (nI n), .int (nI z)])), (jj, aI k 36 fj), (dd, aI k 6 fd), (pp, .inr (10, [.ref h, .ref r1, .ref r2, .int tk])), (r1, .inr (12, [.ref a1])), (a1, aI k 6 f), (r2, .inr (12, [.ref a2])), (a2, aI k 6 ct)]) (st' := [.int (fd v)]) (cells' := 0) (slots' := 0) (g' := 0) (by decide) rfl rfl rfl rfl rfl ?_
  refine g_istore_n (pc := 8) C [(2, .int (fd v)), (0, .ref pp), (1, .int (nI v))] rfl dX6_canTopple_8 (by decide) rfl ?_
  refine g_aload_n (pc := 9) C 1 rfl rfl dX6_canTopple_9 ?_
  refine g_get (pc := 10) C (T := TX6) inX6 3 rfl rfl 0 (by decide) q_37 rfl rfl dX6_canTopple_10 ?_
  refine g_iload_n (pc := 13) C 2 rfl rfl dX6_canTopple_13 ?_
  refine g_callV (pc := 14) (cells := 0) (slots := 0) (g := 0) (As := [.int (nI v)]) (st := []) (T := TX3) (q0 := 0) C (nA := 1) rfl (c_X3_isSink h jj dd n z fj fd v (by first | assumption | decide | omega) (by first | assumption | decide | omega)) q_54 q_55 q_53 q_16 q_52 (by decide +kernel) rfl rfl dX6_canTopple_14 ⟨Nat.le_of_ble_eq_true rfl, Nat.le_of_ble_eq_true rfl⟩ [0, 1, 2] [3, 4, 5, 6, 7] rfl (wr := [(pp, .inr (10, [.ref h, .ref r1, .ref r2, .int tk])), (r1, .inr (12, [.ref a1])), (a1, aI k 6 f), (r2, .inr (12, [.ref a2])), (a2, aI k 6 ct)]) rfl (by decide) (by decide) (by decide) (Nat.le_of_ble_eq_true rfl) ⟨Nat.le_of_ble_eq_true rfl, Nat.le_of_ble_eq_true rfl⟩ (fun rv w1 h1 => ?_)
  obtain ⟨rfl, rfl⟩ := h1
  refine G.aft [5, 6, 7, 0, 1, 2, 3, 4] (ws' := [(h, .inr (7, [.ref jj, .ref dd, .int (nI n), .int (nI z)])), (jj, aI k 36 fj), (dd, aI k 6 fd), (pp, .inr (10, [.ref h, .ref r1, .ref r2, .int tk])), (r1, .inr (12, [.ref a1])), (a1, aI k 6 f), (r2, .inr (12, [.ref a2])), (a2, aI k 6 ct)]) (st' := [.int (bI (decide (v = z)))]) (cells' := 0) (slots' := 0) (g' := 0) (by decide) rfl rfl rfl rfl rfl ?_
  refine g_if_ne (pc := 17) C 40 (by decide) dX6_canTopple_17 (fun c_17 => ?_) (fun c_17 => ?_)
  · simp only [bI_0, decide_eq_false_iff_not, decide_eq_true_eq, Bool.not_eq_false, Decidable.not_not] at c_17
    refine g_iconst (pc := 40) (v := 0) C (by decide) dX6_canTopple_40 ?_
    refine G.eqs (st' := [.int (bI (cTop z fd f v))]) (congrArg (fun z9 => [Value.int z9]) (show (0 : Int32) = (bI (cTop z fd f v)) from by simp [cTop, bI, *])) ?_
    exact g_zret (pc := 41) C hr (by first | rfl | exact bI_nar _) hlk (by first | decide | omega) (by first | decide | omega) (by first | decide | omega) dX6_canTopple_41 ⟨rfl, rfl⟩
  · simp only [bI_0, decide_eq_false_iff_not, decide_eq_true_eq, Bool.not_eq_false, Decidable.not_not] at c_17
    refine g_iload_n (pc := 20) C 0 rfl rfl dX6_canTopple_20 ?_
    refine g_if_le (pc := 21) C 40 (by decide) dX6_canTopple_21 (fun c_21 => ?_) (fun c_21 => ?_)
    · refine g_iconst (pc := 40) (v := 0) C (by decide) dX6_canTopple_40 ?_
      refine G.eqs (st' := [.int (bI (cTop z fd f v))]) (congrArg (fun z9 => [Value.int z9]) (show (0 : Int32) = (bI (cTop z fd f v)) from by simp [cTop, bI, *])) ?_
      exact g_zret (pc := 41) C hr (by first | rfl | exact bI_nar _) hlk (by first | decide | omega) (by first | decide | omega) (by first | decide | omega) dX6_canTopple_41 ⟨rfl, rfl⟩
    · refine g_aload_n (pc := 24) C 1 rfl rfl dX6_canTopple_24 ?_
      refine g_get (pc := 25) C (T := TX6) inX6 3 rfl rfl 1 (by decide) q_34 rfl rfl dX6_canTopple_25 ?_
      refine g_iload_n (pc := 28) C 2 rfl rfl dX6_canTopple_28 ?_
      refine g_callV (pc := 29) (cells := 0) (slots := 0) (g := 0) (As := [.int (nI v)]) (st := []) (T := TX8) (q0 := 4) C (nA := 1) rfl (c_X8_at_n r1 a1 6 f v (by first | assumption | decide | omega) (by first | assumption | decide | omega)) q_51 q_9 q_7 q_6 q_5 (by decide +kernel) rfl rfl dX6_canTopple_29 ⟨Nat.le_of_ble_eq_true rfl, Nat.le_of_ble_eq_true rfl⟩ [4, 5] [0, 1, 2, 3, 6, 7] rfl (wr := [(h, .inr (7, [.ref jj, .ref dd, .int (nI n), .int (nI z)])), (jj, aI k 36 fj), (dd, aI k 6 fd), (pp, .inr (10, [.ref h, .ref r1, .ref r2, .int tk])), (r2, .inr (12, [.ref a2])), (a2, aI k 6 ct)]) rfl (by decide) (by decide) (by decide) (Nat.le_of_ble_eq_true rfl) ⟨Nat.le_of_ble_eq_true rfl, Nat.le_of_ble_eq_true rfl⟩ (fun rv w1 h1 => ?_)
      obtain ⟨rfl, rfl⟩ := h1
      refine G.aft [0, 1, 2, 3, 6, 7, 4, 5] (ws' := [(h, .inr (7, [.ref jj, .ref dd, .int (nI n), .int (nI z)])), (jj, aI k 36 fj), (dd, aI k 6 fd), (pp, .inr (10, [.ref h, .ref r1, .ref r2, .int tk])), (r1, .inr (12, [.ref a1])), (a1, aI k 6 f), (r2, .inr (12, [.ref a2])), (a2, aI k 6 ct)]) (st' := [.int (f v)]) (cells' := 0) (slots' := 0) (g' := 0) (by decide) rfl rfl rfl rfl rfl ?_
      refine g_iload_n (pc := 32) C 0 rfl rfl dX6_canTopple_32 ?_
      refine g_icmp_lt (pc := 33) C 40 (by decide) dX6_canTopple_33 (fun c_33 => ?_) (fun c_33 => ?_)
      · refine g_iconst (pc := 40) (v := 0) C (by decide) dX6_canTopple_40 ?_
        refine G.eqs (st' := [.int (bI (cTop z fd f v))]) (congrArg (fun z9 => [Value.int z9]) (show (0 : Int32) = (bI (cTop z fd f v)) from by simp [cTop, bI, *])) ?_
        exact g_zret (pc := 41) C hr (by first | rfl | exact bI_nar _) hlk (by first | decide | omega) (by first | decide | omega) (by first | decide | omega) dX6_canTopple_41 ⟨rfl, rfl⟩
      · refine g_iconst (pc := 36) (v := 1) C (by decide) dX6_canTopple_36 ?_
        refine g_goto (pc := 37) C 41 (by decide) dX6_canTopple_37 ?_
        refine G.eqs (st' := [.int (bI (cTop z fd f v))]) (congrArg (fun z9 => [Value.int z9]) (show (1 : Int32) = (bI (cTop z fd f v)) from by simp [cTop, bI, *])) ?_
        exact g_zret (pc := 41) C hr (by first | rfl | exact bI_nar _) hlk (by first | decide | omega) (by first | decide | omega) (by first | decide | omega) dX6_canTopple_41 ⟨rfl, rfl⟩
/-- what a toppling vertex sends, vertex by vertex: to the others, to the sink -/
def tpF (z : Nat) (fj : Nat → Int32) (x : Int32) (v : Nat) (f : Nat → Int32) : Nat → (Nat → Int32)
  | 0 => f
  | w + 1 => if w = z then tpF z fj x v f w else upd (tpF z fj x v f w) w (tpF z fj x v f w w + x * fj (v * 6 + w))
def tpT (z : Nat) (fj : Nat → Int32) (x : Int32) (v : Nat) (tk : Int32) : Nat → Int32
  | 0 => tk
  | w + 1 => if w = z then tpT z fj x v tk w + x * fj (v * 6 + w) else tpT z fj x v tk w
set_option maxRecDepth 100000 in
set_option maxHeartbeats 400000 in
theorem c_X6_toppleTimes {l : Launch} {D : va_G} {k : Nat → ClassId} (h : Nat) (jj : Nat) (dd : Nat) (n : Nat) (z : Nat) (fj : Nat → Int32) (fd : Nat → Int32) (pp : Nat) (r1 : Nat) (a1 : Nat) (r2 : Nat) (a2 : Nat) (f : Nat → Int32) (ct : Nat → Int32) (tk : Int32) (v : Nat) (x : Int32) (hn : n ≤ 6) (hv : v < n) (hz : z < 6) : CM l D k yX6_toppleTimes cX6_toppleTimes 5 none  1 23 [.ref pp, .int (nI v), .int x] [(h, .inr (7, [.ref jj, .ref dd, .int (nI n), .int (nI z)])), (jj, aI k 36 fj), (dd, aI k 6 fd), (pp, .inr (10, [.ref h, .ref r1, .ref r2, .int tk])), (r1, .inr (12, [.ref a1])), (a1, aI k 6 f), (r2, .inr (12, [.ref a2])), (a2, aI k 6 ct)] (is1 none [(h, .inr (7, [.ref jj, .ref dd, .int (nI n), .int (nI z)])), (jj, aI k 36 fj), (dd, aI k 6 fd), (pp, .inr (10, [.ref h, .ref r1, .ref r2, .int (tpT z fj x v tk n)])), (r1, .inr (12, [.ref a1])), (a1, aI k 6 (tpF z fj x v (upd f v (f v + (-x) * fd v)) n)), (r2, .inr (12, [.ref a2])), (a2, aI k 6 (upd ct v (ct v + x)))]) 0 0 0 := by
  refine CM.of (lv0 := [(0, .ref pp), (1, .int (nI v)), (2, .int x)]) (by decide +kernel) (Nat.le_of_ble_eq_true rfl) rfl ?_
  intro p e s m below meth c C hr hlk hin had
  refine g_aload_n (pc := 0) C 0 rfl rfl dX6_toppleTimes_0 ?_
  refine g_get (pc := 1) C (T := TX6) inX6 3 rfl rfl 1 (by decide) q_34 rfl rfl dX6_toppleTimes_1 ?_
  refine g_iload_n (pc := 4) C 1 rfl rfl dX6_toppleTimes_4 ?_
  refine g_iload_n (pc := 5) C 2 rfl rfl dX6_toppleTimes_5 ?_
  refine g_ineg (pc := 6) C dX6_toppleTimes_6 ?_
  refine g_aload_n (pc := 7) C 0 rfl rfl dX6_toppleTimes_7 ?_
  refine g_get (pc := 8) C (T := TX6) inX6 3 rfl rfl 0 (by decide) q_37 rfl rfl dX6_toppleTimes_8 ?_
  refine g_iload_n (pc := 11) C 1 rfl rfl dX6_toppleTimes_11 ?_
  refine g_callV (pc := 12) (cells := 0) (slots := 0) (g := 0) (As := [.int (nI v)]) (st := [.int (-x), .int (nI v), .ref r1]) (T := TX3) (q0 := 0) C (nA := 1) rfl (c_X3_degreeOf h jj dd n z fj fd v (by first | assumption | decide | omega)) q_62 q_63 q_61 q_16 q_60 (by decide +kernel) rfl rfl dX6_toppleTimes_12 ⟨Nat.le_of_ble_eq_true rfl, Nat.le_of_ble_eq_true rfl⟩ [0, 1, 2] [3, 4, 5, 6, 7] rfl (wr := [(pp, .inr (10, [.ref h, .ref r1, .ref r2, .int tk])), (r1, .inr (12, [.ref a1])), (a1, aI k 6 f), (r2, .inr (12, [.ref a2])), (a2, aI k 6 ct)]) rfl (by decide) (by decide) (by decide) (Nat.le_of_ble_eq_true rfl) ⟨Nat.le_of_ble_eq_true rfl, Nat.le_of_ble_eq_true rfl⟩ (fun rv w1 h1 => ?_)
  obtain ⟨rfl, rfl⟩ := h1
  refine G.aft [5, 6, 7, 0, 1, 2, 3, 4] (ws' := [(h, .inr (7, [.ref jj, .ref dd, .int (nI n), .int (nI z)])), (jj, aI k 36 fj), (dd, aI k 6 fd), (pp, .inr (10, [.ref h, .ref r1, .ref r2, .int tk])), (r1, .inr (12, [.ref a1])), (a1, aI k 6 f), (r2, .inr (12, [.ref a2])), (a2, aI k 6 ct)]) (st' := [.int (fd v), .int (-x), .int (nI v), .ref r1]) (cells' := 0) (slots' := 0) (g' := 0) (by decide) rfl rfl rfl rfl rfl ?_
  refine g_imul (pc := 15) C dX6_toppleTimes_15 ?_
  refine g_callV (pc := 16) (cells := 0) (slots := 0) (g := 0) (As := [.int (nI v), .int ((-x) * (fd v))]) (st := []) (T := TX8) (q0 := 4) C (nA := 2) rfl (c_X8_add_n r1 a1 6 f v ((-x) * (fd v)) (by first | assumption | decide | omega) (by first | assumption | decide | omega)) q_58 q_59 q_57 q_6 q_56 (by decide +kernel) rfl rfl dX6_toppleTimes_16 ⟨Nat.le_of_ble_eq_true rfl, Nat.le_of_ble_eq_true rfl⟩ [4, 5] [0, 1, 2, 3, 6, 7] rfl (wr := [(h, .inr (7, [.ref jj, .ref dd, .int (nI n), .int (nI z)])), (jj, aI k 36 fj), (dd, aI k 6 fd), (pp, .inr (10, [.ref h, .ref r1, .ref r2, .int tk])), (r2, .inr (12, [.ref a2])), (a2, aI k 6 ct)]) rfl (by decide) (by decide) (by decide) (Nat.le_of_ble_eq_true rfl) ⟨Nat.le_of_ble_eq_true rfl, Nat.le_of_ble_eq_true rfl⟩ (fun rv w1 h1 => ?_)
  obtain ⟨rfl, rfl⟩ := h1
  refine G.aft [0, 1, 2, 3, 6, 7, 4, 5] (ws' := [(h, .inr (7, [.ref jj, .ref dd, .int (nI n), .int (nI z)])), (jj, aI k 36 fj), (dd, aI k 6 fd), (pp, .inr (10, [.ref h, .ref r1, .ref r2, .int tk])), (r1, .inr (12, [.ref a1])), (a1, aI k 6 (upd f v (f v + ((-x) * (fd v))))), (r2, .inr (12, [.ref a2])), (a2, aI k 6 ct)]) (st' := []) (cells' := 0) (slots' := 0) (g' := 0) (by decide) rfl rfl rfl rfl rfl ?_
  refine g_aload_n (pc := 19) C 0 rfl rfl dX6_toppleTimes_19 ?_
  refine g_get (pc := 20) C (T := TX6) inX6 3 rfl rfl 2 (by decide) q_35 rfl rfl dX6_toppleTimes_20 ?_
  refine g_iload_n (pc := 23) C 1 rfl rfl dX6_toppleTimes_23 ?_
  refine g_iload_n (pc := 24) C 2 rfl rfl dX6_toppleTimes_24 ?_
  refine g_callV (pc := 25) (cells := 0) (slots := 0) (g := 0) (As := [.int (nI v), .int x]) (st := []) (T := TX8) (q0 := 6) C (nA := 2) rfl (c_X8_add_n r2 a2 6 ct v x (by first | assumption | decide | omega) (by first | assumption | decide | omega)) q_58 q_59 q_57 q_6 q_56 (by decide +kernel) rfl rfl dX6_toppleTimes_25 ⟨Nat.le_of_ble_eq_true rfl, Nat.le_of_ble_eq_true rfl⟩ [6, 7] [0, 1, 2, 3, 4, 5] rfl (wr := [(h, .inr (7, [.ref jj, .ref dd, .int (nI n), .int (nI z)])), (jj, aI k 36 fj), (dd, aI k 6 fd), (pp, .inr (10, [.ref h, .ref r1, .ref r2, .int tk])), (r1, .inr (12, [.ref a1])), (a1, aI k 6 (upd f v (f v + ((-x) * (fd v)))))]) rfl (by decide) (by decide) (by decide) (Nat.le_of_ble_eq_true rfl) ⟨Nat.le_of_ble_eq_true rfl, Nat.le_of_ble_eq_true rfl⟩ (fun rv w1 h1 => ?_)
  obtain ⟨rfl, rfl⟩ := h1
  refine G.aft [0, 1, 2, 3, 4, 5, 6, 7] (ws' := [(h, .inr (7, [.ref jj, .ref dd, .int (nI n), .int (nI z)])), (jj, aI k 36 fj), (dd, aI k 6 fd), (pp, .inr (10, [.ref h, .ref r1, .ref r2, .int tk])), (r1, .inr (12, [.ref a1])), (a1, aI k 6 (upd f v (f v + ((-x) * (fd v))))), (r2, .inr (12, [.ref a2])), (a2, aI k 6 (upd ct v (ct v + x)))]) (st' := []) (cells' := 0) (slots' := 0) (g' := 0) (by decide) rfl rfl rfl rfl rfl ?_
  refine g_iconst (pc := 28) (v := 0) C (by decide) dX6_toppleTimes_28 ?_
  refine g_istore_n (pc := 29) C [(3, .int 0), (0, .ref pp), (1, .int (nI v)), (2, .int x)] rfl dX6_toppleTimes_29 (by decide) rfl ?_
  have key_30 : ∀ (fuel : Nat) (w : Nat), w ≤ n → n - w < fuel → G p l e { frames := 1, cells := 0, slots := 0, locals := 23 } s m ([.ref pp, .int (nI v), .int x] : List Value).toArray below meth c D 5 (va_A [(h, .inr (7, [.ref jj, .ref dd, .int (nI n), .int (nI z)])), (jj, aI k 36 fj), (dd, aI k 6 fd), (pp, .inr (10, [.ref h, .ref r1, .ref r2, .int tk])), (r1, .inr (12, [.ref a1])), (a1, aI k 6 f), (r2, .inr (12, [.ref a2])), (a2, aI k 6 ct)] s.heap.size) (QM below D ([.ref pp, .int (nI v), .int x] : List Value).toArray s [(h, .inr (7, [.ref jj, .ref dd, .int (nI n), .int (nI z)])), (jj, aI k 36 fj), (dd, aI k 6 fd), (pp, .inr (10, [.ref h, .ref r1, .ref r2, .int tk])), (r1, .inr (12, [.ref a1])), (a1, aI k 6 f), (r2, .inr (12, [.ref a2])), (a2, aI k 6 ct)] (is1 none [(h, .inr (7, [.ref jj, .ref dd, .int (nI n), .int (nI z)])), (jj, aI k 36 fj), (dd, aI k 6 fd), (pp, .inr (10, [.ref h, .ref r1, .ref r2, .int (tpT z fj x v tk n)])), (r1, .inr (12, [.ref a1])), (a1, aI k 6 (tpF z fj x v (upd f v (f v + (-x) * fd v)) n)), (r2, .inr (12, [.ref a2])), (a2, aI k 6 (upd ct v (ct v + x)))]) 0 0 0) [(h, .inr (7, [.ref jj, .ref dd, .int (nI n), .int (nI z)])), (jj, aI k 36 fj), (dd, aI k 6 fd), (pp, .inr (10, [.ref h, .ref r1, .ref r2, .int (tpT z fj x v tk w)])), (r1, .inr (12, [.ref a1])), (a1, aI k 6 (tpF z fj x v (upd f v (f v + (-x) * fd v)) w)), (r2, .inr (12, [.ref a2])), (a2, aI k 6 (upd ct v (ct v + x)))] [(0, .ref pp), (1, .int (nI v)), (2, .int x), (3, .int (nI w))] 0 0 0 30 [] := by
    intro fuel
    induction fuel with
    | zero => intro w hw hm; exact absurd hm (Nat.not_lt_zero _)
    | succ fuel ih =>
      intro w hw hm
      have ih_30 := ih
      refine g_iload_n (pc := 30) C 3 rfl rfl dX6_toppleTimes_30 ?_
      refine g_aload_n (pc := 31) C 0 rfl rfl dX6_toppleTimes_31 ?_
      refine g_get (pc := 32) C (T := TX6) inX6 3 rfl rfl 0 (by decide) q_37 rfl rfl dX6_toppleTimes_32 ?_
      refine g_callV (pc := 35) (cells := 0) (slots := 0) (g := 0) (As := []) (st := [.int (nI w)]) (T := TX3) (q0 := 0) C (nA := 0) rfl (c_X3_size h jj dd n z fj fd ) q_66 q_67 q_65 q_16 q_64 (by decide +kernel) rfl rfl dX6_toppleTimes_35 ⟨Nat.le_of_ble_eq_true rfl, Nat.le_of_ble_eq_true rfl⟩ [0, 1, 2] [3, 4, 5, 6, 7] rfl (wr := [(pp, .inr (10, [.ref h, .ref r1, .ref r2, .int (tpT z fj x v tk w)])), (r1, .inr (12, [.ref a1])), (a1, aI k 6 (tpF z fj x v (upd f v (f v + (-x) * fd v)) w)), (r2, .inr (12, [.ref a2])), (a2, aI k 6 (upd ct v (ct v + x)))]) rfl (by decide) (by decide) (by decide) (Nat.le_of_ble_eq_true rfl) ⟨Nat.le_of_ble_eq_true rfl, Nat.le_of_ble_eq_true rfl⟩ (fun rv w1 h1 => ?_)
      obtain ⟨rfl, rfl⟩ := h1
      refine G.aft [5, 6, 7, 0, 1, 2, 3, 4] (ws' := [(h, .inr (7, [.ref jj, .ref dd, .int (nI n), .int (nI z)])), (jj, aI k 36 fj), (dd, aI k 6 fd), (pp, .inr (10, [.ref h, .ref r1, .ref r2, .int (tpT z fj x v tk w)])), (r1, .inr (12, [.ref a1])), (a1, aI k 6 (tpF z fj x v (upd f v (f v + (-x) * fd v)) w)), (r2, .inr (12, [.ref a2])), (a2, aI k 6 (upd ct v (ct v + x)))]) (st' := [.int (nI n), .int (nI w)]) (cells' := 0) (slots' := 0) (g' := 0) (by decide) rfl rfl rfl rfl rfl ?_
      refine g_icmp_ge (pc := 38) C 95 (by decide) dX6_toppleTimes_38 (fun c_38 => ?_) (fun c_38 => ?_)
      · refine G.eqw (ws' := [(h, .inr (7, [.ref jj, .ref dd, .int (nI n), .int (nI z)])), (jj, aI k 36 fj), (dd, aI k 6 fd), (pp, .inr (10, [.ref h, .ref r1, .ref r2, .int (tpT z fj x v tk n)])), (r1, .inr (12, [.ref a1])), (a1, aI k 6 (tpF z fj x v (upd f v (f v + (-x) * fd v)) w)), (r2, .inr (12, [.ref a2])), (a2, aI k 6 (upd ct v (ct v + x)))]) (congrArg (β := va_W) (fun z9 => [(h, .inr (7, [.ref jj, .ref dd, .int (nI n), .int (nI z)])), (jj, aI k 36 fj), (dd, aI k 6 fd), (pp, .inr (10, [.ref h, .ref r1, .ref r2, .int z9])), (r1, .inr (12, [.ref a1])), (a1, aI k 6 (tpF z fj x v (upd f v (f v + (-x) * fd v)) w)), (r2, .inr (12, [.ref a2])), (a2, aI k 6 (upd ct v (ct v + x)))]) (show ((tpT z fj x v tk w) : Int32) = (tpT z fj x v tk n) from by { have h3 : w = n := (by { rcases Nat.lt_or_ge w n with q | q; exact absurd c_38 (nI_ge q (by omega)); omega }); rw [h3] })) ?_
        refine G.fn (tpF z fj x v (upd f v (f v + (-x) * fd v)) n) 5 [(h, .inr (7, [.ref jj, .ref dd, .int (nI n), .int (nI z)])), (jj, aI k 36 fj), (dd, aI k 6 fd), (pp, .inr (10, [.ref h, .ref r1, .ref r2, .int (tpT z fj x v tk n)])), (r1, .inr (12, [.ref a1])), (a1, aI k 6 (tpF z fj x v (upd f v (f v + (-x) * fd v)) n)), (r2, .inr (12, [.ref a2])), (a2, aI k 6 (upd ct v (ct v + x)))] rfl (fun j hj => by { have h3 : w = n := (by { rcases Nat.lt_or_ge w n with q | q; exact absurd c_38 (nI_ge q (by omega)); omega }); rw [h3] }) rfl ?_
        exact g_vret (pc := 95) C hr hlk (by first | decide | omega) (by first | decide | omega) (by first | decide | omega) dX6_toppleTimes_95 ⟨rfl, rfl⟩
      · have hl38 : w < n := by rcases Nat.lt_or_ge w n with q | q; exact q; exact absurd (nI_le q (by omega)) c_38
        refine g_iload_n (pc := 41) C 2 rfl rfl dX6_toppleTimes_41 ?_
        refine g_aload_n (pc := 42) C 0 rfl rfl dX6_toppleTimes_42 ?_
        refine g_get (pc := 43) C (T := TX6) inX6 3 rfl rfl 0 (by decide) q_37 rfl rfl dX6_toppleTimes_43 ?_
        refine g_iload_n (pc := 46) C 1 rfl rfl dX6_toppleTimes_46 ?_
        refine g_iload_n (pc := 47) C 3 rfl rfl dX6_toppleTimes_47 ?_
        refine g_callV (pc := 48) (cells := 0) (slots := 0) (g := 0) (As := [.int (nI v), .int (nI w)]) (st := [.int x]) (T := TX3) (q0 := 0) C (nA := 2) rfl (c_X3_between h jj dd n z fj fd v w (by first | assumption | decide | omega) (by first | assumption | decide | omega) (by first | assumption | decide | omega)) q_68 q_23 q_21 q_16 q_20 (by decide +kernel) rfl rfl dX6_toppleTimes_48 ⟨Nat.le_of_ble_eq_true rfl, Nat.le_of_ble_eq_true rfl⟩ [0, 1, 2] [3, 4, 5, 6, 7] rfl (wr := [(pp, .inr (10, [.ref h, .ref r1, .ref r2, .int (tpT z fj x v tk w)])), (r1, .inr (12, [.ref a1])), (a1, aI k 6 (tpF z fj x v (upd f v (f v + (-x) * fd v)) w)), (r2, .inr (12, [.ref a2])), (a2, aI k 6 (upd ct v (ct v + x)))]) rfl (by decide) (by decide) (by decide) (Nat.le_of_ble_eq_true rfl) ⟨Nat.le_of_ble_eq_true rfl, Nat.le_of_ble_eq_true rfl⟩ (fun rv w1 h1 => ?_)
        obtain ⟨rfl, rfl⟩ := h1
        refine G.aft [5, 6, 7, 0, 1, 2, 3, 4] (ws' := [(h, .inr (7, [.ref jj, .ref dd, .int (nI n), .int (nI z)])), (jj, aI k 36 fj), (dd, aI k 6 fd), (pp, .inr (10, [.ref h, .ref r1, .ref r2, .int (tpT z fj x v tk w)])), (r1, .inr (12, [.ref a1])), (a1, aI k 6 (tpF z fj x v (upd f v (f v + (-x) * fd v)) w)), (r2, .inr (12, [.ref a2])), (a2, aI k 6 (upd ct v (ct v + x)))]) (st' := [.int (fj (v * 6 + w)), .int x]) (cells' := 0) (slots' := 0) (g' := 0) (by decide) rfl rfl rfl rfl rfl ?_
        refine g_imul (pc := 51) C dX6_toppleTimes_51 ?_
        refine g_istore (pc := 52) C [(4, .int (x * (fj (v * 6 + w)))), (0, .ref pp), (1, .int (nI v)), (2, .int x), (3, .int (nI w))] dX6_toppleTimes_52 (by decide) rfl ?_
        refine g_aload_n (pc := 54) C 1 rfl rfl dX6_toppleTimes_54 ?_
        refine g_get (pc := 55) C (T := TX6) inX6 3 rfl rfl 0 (by decide) q_37 rfl rfl dX6_toppleTimes_55 ?_
        refine g_iload_n (pc := 58) C 4 rfl rfl dX6_toppleTimes_58 ?_
        refine g_callV (pc := 59) (cells := 0) (slots := 0) (g := 0) (As := [.int (nI w)]) (st := []) (T := TX3) (q0 := 0) C (nA := 1) rfl (c_X3_isSink h jj dd n z fj fd w (by first | assumption | decide | omega) (by first | assumption | decide | omega)) q_54 q_55 q_53 q_16 q_52 (by decide +kernel) rfl rfl dX6_toppleTimes_59 ⟨Nat.le_of_ble_eq_true rfl, Nat.le_of_ble_eq_true rfl⟩ [0, 1, 2] [3, 4, 5, 6, 7] rfl (wr := [(pp, .inr (10, [.ref h, .ref r1, .ref r2, .int (tpT z fj x v tk w)])), (r1, .inr (12, [.ref a1])), (a1, aI k 6 (tpF z fj x v (upd f v (f v + (-x) * fd v)) w)), (r2, .inr (12, [.ref a2])), (a2, aI k 6 (upd ct v (ct v + x)))]) rfl (by decide) (by decide) (by decide) (Nat.le_of_ble_eq_true rfl) ⟨Nat.le_of_ble_eq_true rfl, Nat.le_of_ble_eq_true rfl⟩ (fun rv w1 h1 => ?_)
        obtain ⟨rfl, rfl⟩ := h1
        refine G.aft [5, 6, 7, 0, 1, 2, 3, 4] (ws' := [(h, .inr (7, [.ref jj, .ref dd, .int (nI n), .int (nI z)])), (jj, aI k 36 fj), (dd, aI k 6 fd), (pp, .inr (10, [.ref h, .ref r1, .ref r2, .int (tpT z fj x v tk w)])), (r1, .inr (12, [.ref a1])), (a1, aI k 6 (tpF z fj x v (upd f v (f v + (-x) * fd v)) w)), (r2, .inr (12, [.ref a2])), (a2, aI k 6 (upd ct v (ct v + x)))]) (st' := [.int (bI (decide (w = z)))]) (cells' := 0) (slots' := 0) (g' := 0) (by decide) rfl rfl rfl rfl rfl ?_
        refine g_if_eq (pc := 62) C 79 (by decide) dX6_toppleTimes_62 (fun c_62 => ?_) (fun c_62 => ?_)
        · simp only [bI_0, decide_eq_false_iff_not, decide_eq_true_eq, Bool.not_eq_false, Decidable.not_not] at c_62
          refine g_aload_n (pc := 79) C 1 rfl rfl dX6_toppleTimes_79 ?_
          refine g_get (pc := 80) C (T := TX6) inX6 3 rfl rfl 1 (by decide) q_34 rfl rfl dX6_toppleTimes_80 ?_
          refine g_iload_n (pc := 83) C 4 rfl rfl dX6_toppleTimes_83 ?_
          refine g_iload (pc := 84) C 0 rfl dX6_toppleTimes_84 ?_
          refine g_callV (pc := 86) (cells := 0) (slots := 0) (g := 0) (As := [.int (nI w), .int (x * (fj (v * 6 + w)))]) (st := []) (T := TX8) (q0 := 4) C (nA := 2) rfl (c_X8_add_n r1 a1 6 (tpF z fj x v (upd f v (f v + (-x) * fd v)) w) w (x * (fj (v * 6 + w))) (by first | assumption | decide | omega) (by first | assumption | decide | omega)) q_58 q_59 q_57 q_6 q_56 (by decide +kernel) rfl rfl dX6_toppleTimes_86 ⟨Nat.le_of_ble_eq_true rfl, Nat.le_of_ble_eq_true rfl⟩ [4, 5] [0, 1, 2, 3, 6, 7] rfl (wr := [(h, .inr (7, [.ref jj, .ref dd, .int (nI n), .int (nI z)])), (jj, aI k 36 fj), (dd, aI k 6 fd), (pp, .inr (10, [.ref h, .ref r1, .ref r2, .int (tpT z fj x v tk w)])), (r2, .inr (12, [.ref a2])), (a2, aI k 6 (upd ct v (ct v + x)))]) rfl (by decide) (by decide) (by decide) (Nat.le_of_ble_eq_true rfl) ⟨Nat.le_of_ble_eq_true rfl, Nat.le_of_ble_eq_true rfl⟩ (fun rv w1 h1 => ?_)
          obtain ⟨rfl, rfl⟩ := h1
          refine G.aft [0, 1, 2, 3, 6, 7, 4, 5] (ws' := [(h, .inr (7, [.ref jj, .ref dd, .int (nI n), .int (nI z)])), (jj, aI k 36 fj), (dd, aI k 6 fd), (pp, .inr (10, [.ref h, .ref r1, .ref r2, .int (tpT z fj x v tk w)])), (r1, .inr (12, [.ref a1])), (a1, aI k 6 (upd (tpF z fj x v (upd f v (f v + (-x) * fd v)) w) w ((tpF z fj x v (upd f v (f v + (-x) * fd v)) w) w + (x * (fj (v * 6 + w)))))), (r2, .inr (12, [.ref a2])), (a2, aI k 6 (upd ct v (ct v + x)))]) (st' := []) (cells' := 0) (slots' := 0) (g' := 0) (by decide) rfl rfl rfl rfl rfl ?_
          refine g_iinc (pc := 89) (n := 1) (v := (nI (w + 1))) C 4 [(3, .int (nI (w + 1))), (4, .int (x * (fj (v * 6 + w)))), (0, .ref pp), (1, .int (nI v)), (2, .int x)] rfl (nI_1 w) dX6_toppleTimes_89 (by decide) rfl ?_
          refine g_goto (pc := 92) C 30 (by decide) dX6_toppleTimes_92 ?_
          refine G.loc [2, 3, 4, 0] (lv' := [(0, .ref pp), (1, .int (nI v)), (2, .int x), (3, .int (nI (w + 1)))]) rfl ?_
          refine G.eqw (ws' := [(h, .inr (7, [.ref jj, .ref dd, .int (nI n), .int (nI z)])), (jj, aI k 36 fj), (dd, aI k 6 fd), (pp, .inr (10, [.ref h, .ref r1, .ref r2, .int (tpT z fj x v tk (w + 1))])), (r1, .inr (12, [.ref a1])), (a1, aI k 6 (upd (tpF z fj x v (upd f v (f v + (-x) * fd v)) w) w ((tpF z fj x v (upd f v (f v + (-x) * fd v)) w) w + (x * (fj (v * 6 + w)))))), (r2, .inr (12, [.ref a2])), (a2, aI k 6 (upd ct v (ct v + x)))]) (congrArg (β := va_W) (fun z9 => [(h, .inr (7, [.ref jj, .ref dd, .int (nI n), .int (nI z)])), (jj, aI k 36 fj), (dd, aI k 6 fd), (pp, .inr (10, [.ref h, .ref r1, .ref r2, .int z9])), (r1, .inr (12, [.ref a1])), (a1, aI k 6 (upd (tpF z fj x v (upd f v (f v + (-x) * fd v)) w) w ((tpF z fj x v (upd f v (f v + (-x) * fd v)) w) w + (x * (fj (v * 6 + w)))))), (r2, .inr (12, [.ref a2])), (a2, aI k 6 (upd ct v (ct v + x)))]) (show ((tpT z fj x v tk w) : Int32) = (tpT z fj x v tk (w + 1)) from by simp [tpF, tpT, c_62])) ?_
          refine G.fn (tpF z fj x v (upd f v (f v + (-x) * fd v)) (w + 1)) 5 [(h, .inr (7, [.ref jj, .ref dd, .int (nI n), .int (nI z)])), (jj, aI k 36 fj), (dd, aI k 6 fd), (pp, .inr (10, [.ref h, .ref r1, .ref r2, .int (tpT z fj x v tk (w + 1))])), (r1, .inr (12, [.ref a1])), (a1, aI k 6 (tpF z fj x v (upd f v (f v + (-x) * fd v)) (w + 1))), (r2, .inr (12, [.ref a2])), (a2, aI k 6 (upd ct v (ct v + x)))] rfl (fun j hj => by simp [tpF, tpT, c_62]) rfl ?_
          exact ih_30 (w + 1) (by omega) (by omega)
        · simp only [bI_0, decide_eq_false_iff_not, decide_eq_true_eq, Bool.not_eq_false, Decidable.not_not] at c_62
          refine g_aload_n (pc := 65) C 1 rfl rfl dX6_toppleTimes_65 ?_
          refine g_dup (pc := 66) C rfl dX6_toppleTimes_66 ?_
          refine g_get (pc := 67) C (T := TX6) inX6 3 rfl rfl 3 (by decide) q_36 rfl rfl dX6_toppleTimes_67 ?_
          refine g_iload (pc := 70) C 0 rfl dX6_toppleTimes_70 ?_
          refine g_iadd (pc := 72) C dX6_toppleTimes_72 ?_
          refine g_put (pc := 73) C (T := TX6) inX6 3 rfl rfl 3 (by decide) q_36 rfl tyX6 tyX6_ok nmX6 rfl [(h, .inr (7, [.ref jj, .ref dd, .int (nI n), .int (nI z)])), (jj, aI k 36 fj), (dd, aI k 6 fd), (pp, .inr (10, [.ref h, .ref r1, .ref r2, .int ((tpT z fj x v tk w) + (x * (fj (v * 6 + w))))])), (r1, .inr (12, [.ref a1])), (a1, aI k 6 (tpF z fj x v (upd f v (f v + (-x) * fd v)) w)), (r2, .inr (12, [.ref a2])), (a2, aI k 6 (upd ct v (ct v + x)))] (tyX6_ok 3 (by decide)) rfl (by rfl) (Nat.le_of_ble_eq_true rfl) rfl dX6_toppleTimes_73 ?_
          refine g_goto (pc := 76) C 89 (by decide) dX6_toppleTimes_76 ?_
          refine g_iinc (pc := 89) (n := 1) (v := (nI (w + 1))) C 4 [(3, .int (nI (w + 1))), (4, .int (x * (fj (v * 6 + w)))), (0, .ref pp), (1, .int (nI v)), (2, .int x)] rfl (nI_1 w) dX6_toppleTimes_89 (by decide) rfl ?_
          refine g_goto (pc := 92) C 30 (by decide) dX6_toppleTimes_92 ?_
          refine G.loc [2, 3, 4, 0] (lv' := [(0, .ref pp), (1, .int (nI v)), (2, .int x), (3, .int (nI (w + 1)))]) rfl ?_
          refine G.eqw (ws' := [(h, .inr (7, [.ref jj, .ref dd, .int (nI n), .int (nI z)])), (jj, aI k 36 fj), (dd, aI k 6 fd), (pp, .inr (10, [.ref h, .ref r1, .ref r2, .int (tpT z fj x v tk (w + 1))])), (r1, .inr (12, [.ref a1])), (a1, aI k 6 (tpF z fj x v (upd f v (f v + (-x) * fd v)) w)), (r2, .inr (12, [.ref a2])), (a2, aI k 6 (upd ct v (ct v + x)))]) (congrArg (β := va_W) (fun z9 => [(h, .inr (7, [.ref jj, .ref dd, .int (nI n), .int (nI z)])), (jj, aI k 36 fj), (dd, aI k 6 fd), (pp, .inr (10, [.ref h, .ref r1, .ref r2, .int z9])), (r1, .inr (12, [.ref a1])), (a1, aI k 6 (tpF z fj x v (upd f v (f v + (-x) * fd v)) w)), (r2, .inr (12, [.ref a2])), (a2, aI k 6 (upd ct v (ct v + x)))]) (show (((tpT z fj x v tk w) + (x * (fj (v * 6 + w)))) : Int32) = (tpT z fj x v tk (w + 1)) from by simp [tpF, tpT, c_62])) ?_
          refine G.fn (tpF z fj x v (upd f v (f v + (-x) * fd v)) (w + 1)) 5 [(h, .inr (7, [.ref jj, .ref dd, .int (nI n), .int (nI z)])), (jj, aI k 36 fj), (dd, aI k 6 fd), (pp, .inr (10, [.ref h, .ref r1, .ref r2, .int (tpT z fj x v tk (w + 1))])), (r1, .inr (12, [.ref a1])), (a1, aI k 6 (tpF z fj x v (upd f v (f v + (-x) * fd v)) (w + 1))), (r2, .inr (12, [.ref a2])), (a2, aI k 6 (upd ct v (ct v + x)))] rfl (fun j hj => by simp [tpF, tpT, c_62]) rfl ?_
          exact ih_30 (w + 1) (by omega) (by omega)
  refine G.loc [1, 2, 3, 0] (lv' := [(0, .ref pp), (1, .int (nI v)), (2, .int x), (3, .int 0)]) rfl ?_
  refine G.eqw (ws' := [(h, .inr (7, [.ref jj, .ref dd, .int (nI n), .int (nI z)])), (jj, aI k 36 fj), (dd, aI k 6 fd), (pp, .inr (10, [.ref h, .ref r1, .ref r2, .int (tpT z fj x v tk 0)])), (r1, .inr (12, [.ref a1])), (a1, aI k 6 (upd f v (f v + ((-x) * (fd v))))), (r2, .inr (12, [.ref a2])), (a2, aI k 6 (upd ct v (ct v + x)))]) (congrArg (β := va_W) (fun z9 => [(h, .inr (7, [.ref jj, .ref dd, .int (nI n), .int (nI z)])), (jj, aI k 36 fj), (dd, aI k 6 fd), (pp, .inr (10, [.ref h, .ref r1, .ref r2, .int z9])), (r1, .inr (12, [.ref a1])), (a1, aI k 6 (upd f v (f v + ((-x) * (fd v))))), (r2, .inr (12, [.ref a2])), (a2, aI k 6 (upd ct v (ct v + x)))]) (show (tk : Int32) = (tpT z fj x v tk 0) from by rfl)) ?_
  refine G.fn (tpF z fj x v (upd f v (f v + (-x) * fd v)) 0) 5 [(h, .inr (7, [.ref jj, .ref dd, .int (nI n), .int (nI z)])), (jj, aI k 36 fj), (dd, aI k 6 fd), (pp, .inr (10, [.ref h, .ref r1, .ref r2, .int (tpT z fj x v tk 0)])), (r1, .inr (12, [.ref a1])), (a1, aI k 6 (tpF z fj x v (upd f v (f v + (-x) * fd v)) 0)), (r2, .inr (12, [.ref a2])), (a2, aI k 6 (upd ct v (ct v + x)))] rfl (fun j hj => by rfl) rfl ?_
  refine G.eql (lv' := [(0, .ref pp), (1, .int (nI v)), (2, .int x), (3, .int (nI 0))]) (congrArg (β := List (Nat × Value)) (fun z9 => [(0, .ref pp), (1, .int (nI v)), (2, .int x), (3, .int z9)]) (show (0 : Int32) = (nI 0) from by exact nI_0.symm)) ?_
  exact key_30 (n - 0 + 1) 0 (by omega) (Nat.lt_succ_self _)
/-- a wave: who can topple, as bits; then each of them once -/
def wvM (z : Nat) (fd f : Nat → Int32) : Nat → Int32
  | 0 => 0
  | v + 1 => if cTop z fd f v = true then wvM z fd f v ||| (1 <<< (nI v &&& 31)) else wvM z fd f v
def wvS (n z : Nat) (fj fd : Nat → Int32) (M : Int32) (S : (Nat → Int32) × (Nat → Int32) × Int32) : Nat → (Nat → Int32) × (Nat → Int32) × Int32
  | 0 => S
  | v + 1 => if ((M >>> (nI v &&& 31)) &&& 1) = 1 then (tpF z fj 1 v (upd (wvS n z fj fd M S v).1 v ((wvS n z fj fd M S v).1 v + (-1) * fd v)) n, upd (wvS n z fj fd M S v).2.1 v ((wvS n z fj fd M S v).2.1 v + 1), tpT z fj 1 v (wvS n z fj fd M S v).2.2 n) else wvS n z fj fd M S v
set_option maxRecDepth 100000 in
set_option maxHeartbeats 400000 in
theorem c_X6_toppleWave {l : Launch} {D : va_G} {k : Nat → ClassId} (h : Nat) (jj : Nat) (dd : Nat) (n : Nat) (z : Nat) (fj : Nat → Int32) (fd : Nat → Int32) (pp : Nat) (r1 : Nat) (a1 : Nat) (r2 : Nat) (a2 : Nat) (f : Nat → Int32) (ct : Nat → Int32) (tk : Int32) (hn : n ≤ 6) (hz : z < 6) : CM l D k yX6_toppleWave cX6_toppleWave 3 (some .boolean)  2 47 [.ref pp] [(h, .inr (7, [.ref jj, .ref dd, .int (nI n), .int (nI z)])), (jj, aI k 36 fj), (dd, aI k 6 fd), (pp, .inr (10, [.ref h, .ref r1, .ref r2, .int tk])), (r1, .inr (12, [.ref a1])), (a1, aI k 6 f), (r2, .inr (12, [.ref a2])), (a2, aI k 6 ct)] (is1 (some (.int (bI (decide (¬ wvM z fd f n = 0))))) [(h, .inr (7, [.ref jj, .ref dd, .int (nI n), .int (nI z)])), (jj, aI k 36 fj), (dd, aI k 6 fd), (pp, .inr (10, [.ref h, .ref r1, .ref r2, .int ((wvS n z fj fd (wvM z fd f n) (f, ct, tk) n).2.2)])), (r1, .inr (12, [.ref a1])), (a1, aI k 6 ((wvS n z fj fd (wvM z fd f n) (f, ct, tk) n).1)), (r2, .inr (12, [.ref a2])), (a2, aI k 6 ((wvS n z fj fd (wvM z fd f n) (f, ct, tk) n).2.1))]) 0 0 0 := by
  refine CM.of (lv0 := [(0, .ref pp)]) (by decide +kernel) (Nat.le_of_ble_eq_true rfl) rfl ?_
  intro p e s m below meth c C hr hlk hin had
  refine g_iconst (pc := 0) (v := 0) C (by decide) dX6_toppleWave_0 ?_
  refine g_istore_n (pc := 1) C [(1, .int 0), (0, .ref pp)] rfl dX6_toppleWave_1 (by decide) rfl ?_
  refine g_iconst (pc := 2) (v := 0) C (by decide) dX6_toppleWave_2 ?_
  refine g_istore_n (pc := 3) C [(2, .int 0), (1, .int 0), (0, .ref pp)] rfl dX6_toppleWave_3 (by decide) rfl ?_
  have key_4 : ∀ (fuel : Nat) (i : Nat), i ≤ n → n - i < fuel → G p l e { frames := 2, cells := 0, slots := 0, locals := 47 } s m ([.ref pp] : List Value).toArray below meth c D 3 (va_A [(h, .inr (7, [.ref jj, .ref dd, .int (nI n), .int (nI z)])), (jj, aI k 36 fj), (dd, aI k 6 fd), (pp, .inr (10, [.ref h, .ref r1, .ref r2, .int tk])), (r1, .inr (12, [.ref a1])), (a1, aI k 6 f), (r2, .inr (12, [.ref a2])), (a2, aI k 6 ct)] s.heap.size) (QM below D ([.ref pp] : List Value).toArray s [(h, .inr (7, [.ref jj, .ref dd, .int (nI n), .int (nI z)])), (jj, aI k 36 fj), (dd, aI k 6 fd), (pp, .inr (10, [.ref h, .ref r1, .ref r2, .int tk])), (r1, .inr (12, [.ref a1])), (a1, aI k 6 f), (r2, .inr (12, [.ref a2])), (a2, aI k 6 ct)] (is1 (some (.int (bI (decide (¬ wvM z fd f n = 0))))) [(h, .inr (7, [.ref jj, .ref dd, .int (nI n), .int (nI z)])), (jj, aI k 36 fj), (dd, aI k 6 fd), (pp, .inr (10, [.ref h, .ref r1, .ref r2, .int ((wvS n z fj fd (wvM z fd f n) (f, ct, tk) n).2.2)])), (r1, .inr (12, [.ref a1])), (a1, aI k 6 ((wvS n z fj fd (wvM z fd f n) (f, ct, tk) n).1)), (r2, .inr (12, [.ref a2])), (a2, aI k 6 ((wvS n z fj fd (wvM z fd f n) (f, ct, tk) n).2.1))]) 0 0 0) [(h, .inr (7, [.ref jj, .ref dd, .int (nI n), .int (nI z)])), (jj, aI k 36 fj), (dd, aI k 6 fd), (pp, .inr (10, [.ref h, .ref r1, .ref r2, .int tk])), (r1, .inr (12, [.ref a1])), (a1, aI k 6 f), (r2, .inr (12, [.ref a2])), (a2, aI k 6 ct)] [(0, .ref pp), (1, .int (wvM z fd f i)), (2, .int (nI i))] 0 0 0 4 [] := by
    intro fuel
    induction fuel with
    | zero => intro i hi hm; exact absurd hm (Nat.not_lt_zero _)
    | succ fuel ih =>
      intro i hi hm
      have ih_4 := ih
      refine g_iload_n (pc := 4) C 2 rfl rfl dX6_toppleWave_4 ?_
      refine g_aload_n (pc := 5) C 0 rfl rfl dX6_toppleWave_5 ?_
      refine g_get (pc := 6) C (T := TX6) inX6 3 rfl rfl 0 (by decide) q_37 rfl rfl dX6_toppleWave_6 ?_
      refine g_callV (pc := 9) (cells := 0) (slots := 0) (g := 0) (As := []) (st := [.int (nI i)]) (T := TX3) (q0 := 0) C (nA := 0) rfl (c_X3_size h jj dd n z fj fd ) q_66 q_67 q_65 q_16 q_64 (by decide +kernel) rfl rfl dX6_toppleWave_9 ⟨Nat.le_of_ble_eq_true rfl, Nat.le_of_ble_eq_true rfl⟩ [0, 1, 2] [3, 4, 5, 6, 7] rfl (wr := [(pp, .inr (10, [.ref h, .ref r1, .ref r2, .int tk])), (r1, .inr (12, [.ref a1])), (a1, aI k 6 f), (r2, .inr (12, [.ref a2])), (a2, aI k 6 ct)]) rfl (by decide) (by decide) (by decide) (Nat.le_of_ble_eq_true rfl) ⟨Nat.le_of_ble_eq_true rfl, Nat.le_of_ble_eq_true rfl⟩ (fun rv w1 h1 => ?_)
      obtain ⟨rfl, rfl⟩ := h1
      refine G.aft [5, 6, 7, 0, 1, 2, 3, 4] (ws' := [(h, .inr (7, [.ref jj, .ref dd, .int (nI n), .int (nI z)])), (jj, aI k 36 fj), (dd, aI k 6 fd), (pp, .inr (10, [.ref h, .ref r1, .ref r2, .int tk])), (r1, .inr (12, [.ref a1])), (a1, aI k 6 f), (r2, .inr (12, [.ref a2])), (a2, aI k 6 ct)]) (st' := [.int (nI n), .int (nI i)]) (cells' := 0) (slots' := 0) (g' := 0) (by decide) rfl rfl rfl rfl rfl ?_
      refine g_icmp_ge (pc := 12) C 35 (by decide) dX6_toppleWave_12 (fun c_12 => ?_) (fun c_12 => ?_)
      · have h3 : i = n := by { rcases Nat.lt_or_ge i n with q | q; exact absurd c_12 (nI_ge q (by omega)); omega }
        refine g_iconst (pc := 35) (v := 0) C (by decide) dX6_toppleWave_35 ?_
        refine g_istore_n (pc := 36) C [(2, .int 0), (0, .ref pp), (1, .int (wvM z fd f i))] rfl dX6_toppleWave_36 (by decide) rfl ?_
        have key_37 : ∀ (fuel : Nat) (y : Nat), y ≤ n → n - y < fuel → G p l e { frames := 2, cells := 0, slots := 0, locals := 47 } s m ([.ref pp] : List Value).toArray below meth c D 3 (va_A [(h, .inr (7, [.ref jj, .ref dd, .int (nI n), .int (nI z)])), (jj, aI k 36 fj), (dd, aI k 6 fd), (pp, .inr (10, [.ref h, .ref r1, .ref r2, .int tk])), (r1, .inr (12, [.ref a1])), (a1, aI k 6 f), (r2, .inr (12, [.ref a2])), (a2, aI k 6 ct)] s.heap.size) (QM below D ([.ref pp] : List Value).toArray s [(h, .inr (7, [.ref jj, .ref dd, .int (nI n), .int (nI z)])), (jj, aI k 36 fj), (dd, aI k 6 fd), (pp, .inr (10, [.ref h, .ref r1, .ref r2, .int tk])), (r1, .inr (12, [.ref a1])), (a1, aI k 6 f), (r2, .inr (12, [.ref a2])), (a2, aI k 6 ct)] (is1 (some (.int (bI (decide (¬ wvM z fd f n = 0))))) [(h, .inr (7, [.ref jj, .ref dd, .int (nI n), .int (nI z)])), (jj, aI k 36 fj), (dd, aI k 6 fd), (pp, .inr (10, [.ref h, .ref r1, .ref r2, .int ((wvS n z fj fd (wvM z fd f n) (f, ct, tk) n).2.2)])), (r1, .inr (12, [.ref a1])), (a1, aI k 6 ((wvS n z fj fd (wvM z fd f n) (f, ct, tk) n).1)), (r2, .inr (12, [.ref a2])), (a2, aI k 6 ((wvS n z fj fd (wvM z fd f n) (f, ct, tk) n).2.1))]) 0 0 0) [(h, .inr (7, [.ref jj, .ref dd, .int (nI n), .int (nI z)])), (jj, aI k 36 fj), (dd, aI k 6 fd), (pp, .inr (10, [.ref h, .ref r1, .ref r2, .int ((wvS n z fj fd (wvM z fd f n) (f, ct, tk) y).2.2)])), (r1, .inr (12, [.ref a1])), (a1, aI k 6 ((wvS n z fj fd (wvM z fd f n) (f, ct, tk) y).1)), (r2, .inr (12, [.ref a2])), (a2, aI k 6 ((wvS n z fj fd (wvM z fd f n) (f, ct, tk) y).2.1))] [(0, .ref pp), (1, .int (wvM z fd f n)), (2, .int (nI y))] 0 0 0 37 [] := by
          intro fuel
          induction fuel with
          | zero => intro y hy hm; exact absurd hm (Nat.not_lt_zero _)
          | succ fuel ih =>
            intro y hy hm
            have ih_37 := ih
            refine g_iload_n (pc := 37) C 2 rfl rfl dX6_toppleWave_37 ?_
            refine g_aload_n (pc := 38) C 0 rfl rfl dX6_toppleWave_38 ?_
            refine g_get (pc := 39) C (T := TX6) inX6 3 rfl rfl 0 (by decide) q_37 rfl rfl dX6_toppleWave_39 ?_
            refine g_callV (pc := 42) (cells := 0) (slots := 0) (g := 0) (As := []) (st := [.int (nI y)]) (T := TX3) (q0 := 0) C (nA := 0) rfl (c_X3_size h jj dd n z fj fd ) q_66 q_67 q_65 q_16 q_64 (by decide +kernel) rfl rfl dX6_toppleWave_42 ⟨Nat.le_of_ble_eq_true rfl, Nat.le_of_ble_eq_true rfl⟩ [0, 1, 2] [3, 4, 5, 6, 7] rfl (wr := [(pp, .inr (10, [.ref h, .ref r1, .ref r2, .int ((wvS n z fj fd (wvM z fd f n) (f, ct, tk) y).2.2)])), (r1, .inr (12, [.ref a1])), (a1, aI k 6 ((wvS n z fj fd (wvM z fd f n) (f, ct, tk) y).1)), (r2, .inr (12, [.ref a2])), (a2, aI k 6 ((wvS n z fj fd (wvM z fd f n) (f, ct, tk) y).2.1))]) rfl (by decide) (by decide) (by decide) (Nat.le_of_ble_eq_true rfl) ⟨Nat.le_of_ble_eq_true rfl, Nat.le_of_ble_eq_true rfl⟩ (fun rv w1 h1 => ?_)
            obtain ⟨rfl, rfl⟩ := h1
            refine G.aft [5, 6, 7, 0, 1, 2, 3, 4] (ws' := [(h, .inr (7, [.ref jj, .ref dd, .int (nI n), .int (nI z)])), (jj, aI k 36 fj), (dd, aI k 6 fd), (pp, .inr (10, [.ref h, .ref r1, .ref r2, .int ((wvS n z fj fd (wvM z fd f n) (f, ct, tk) y).2.2)])), (r1, .inr (12, [.ref a1])), (a1, aI k 6 ((wvS n z fj fd (wvM z fd f n) (f, ct, tk) y).1)), (r2, .inr (12, [.ref a2])), (a2, aI k 6 ((wvS n z fj fd (wvM z fd f n) (f, ct, tk) y).2.1))]) (st' := [.int (nI n), .int (nI y)]) (cells' := 0) (slots' := 0) (g' := 0) (by decide) rfl rfl rfl rfl rfl ?_
            refine g_icmp_ge (pc := 45) C 69 (by decide) dX6_toppleWave_45 (fun c_45 => ?_) (fun c_45 => ?_)
            · refine g_iload_n (pc := 69) C 1 rfl rfl dX6_toppleWave_69 ?_
              refine g_if_eq (pc := 70) C 77 (by decide) dX6_toppleWave_70 (fun c_70 => ?_) (fun c_70 => ?_)
              · refine g_iconst (pc := 77) (v := 0) C (by decide) dX6_toppleWave_77 ?_
                refine G.eqw (ws' := [(h, .inr (7, [.ref jj, .ref dd, .int (nI n), .int (nI z)])), (jj, aI k 36 fj), (dd, aI k 6 fd), (pp, .inr (10, [.ref h, .ref r1, .ref r2, .int ((wvS n z fj fd (wvM z fd f n) (f, ct, tk) n).2.2)])), (r1, .inr (12, [.ref a1])), (a1, aI k 6 ((wvS n z fj fd (wvM z fd f n) (f, ct, tk) y).1)), (r2, .inr (12, [.ref a2])), (a2, aI k 6 ((wvS n z fj fd (wvM z fd f n) (f, ct, tk) y).2.1))]) (congrArg (β := va_W) (fun z9 => [(h, .inr (7, [.ref jj, .ref dd, .int (nI n), .int (nI z)])), (jj, aI k 36 fj), (dd, aI k 6 fd), (pp, .inr (10, [.ref h, .ref r1, .ref r2, .int z9])), (r1, .inr (12, [.ref a1])), (a1, aI k 6 ((wvS n z fj fd (wvM z fd f n) (f, ct, tk) y).1)), (r2, .inr (12, [.ref a2])), (a2, aI k 6 ((wvS n z fj fd (wvM z fd f n) (f, ct, tk) y).2.1))]) (show ((wvS n z fj fd (wvM z fd f n) (f, ct, tk) y).2.2 : Int32) = (wvS n z fj fd (wvM z fd f n) (f, ct, tk) n).2.2 from by { have h4 : y = n := (by { rcases Nat.lt_or_ge y n with q | q; exact absurd c_45 (nI_ge q (by omega)); omega }); first | rw [h4] | simp [bI, c_70] })) ?_
                refine G.fn ((wvS n z fj fd (wvM z fd f n) (f, ct, tk) n).1) 5 [(h, .inr (7, [.ref jj, .ref dd, .int (nI n), .int (nI z)])), (jj, aI k 36 fj), (dd, aI k 6 fd), (pp, .inr (10, [.ref h, .ref r1, .ref r2, .int ((wvS n z fj fd (wvM z fd f n) (f, ct, tk) n).2.2)])), (r1, .inr (12, [.ref a1])), (a1, aI k 6 ((wvS n z fj fd (wvM z fd f n) (f, ct, tk) n).1)), (r2, .inr (12, [.ref a2])), (a2, aI k 6 ((wvS n z fj fd (wvM z fd f n) (f, ct, tk) y).2.1))] rfl (fun j hj => by { have h4 : y = n := (by { rcases Nat.lt_or_ge y n with q | q; exact absurd c_45 (nI_ge q (by omega)); omega }); first | rw [h4] | simp [bI, c_70] }) rfl ?_
                refine G.fn ((wvS n z fj fd (wvM z fd f n) (f, ct, tk) n).2.1) 7 [(h, .inr (7, [.ref jj, .ref dd, .int (nI n), .int (nI z)])), (jj, aI k 36 fj), (dd, aI k 6 fd), (pp, .inr (10, [.ref h, .ref r1, .ref r2, .int ((wvS n z fj fd (wvM z fd f n) (f, ct, tk) n).2.2)])), (r1, .inr (12, [.ref a1])), (a1, aI k 6 ((wvS n z fj fd (wvM z fd f n) (f, ct, tk) n).1)), (r2, .inr (12, [.ref a2])), (a2, aI k 6 ((wvS n z fj fd (wvM z fd f n) (f, ct, tk) n).2.1))] rfl (fun j hj => by { have h4 : y = n := (by { rcases Nat.lt_or_ge y n with q | q; exact absurd c_45 (nI_ge q (by omega)); omega }); first | rw [h4] | simp [bI, c_70] }) rfl ?_
                refine G.eqs (st' := [.int (bI (decide (¬ wvM z fd f n = 0)))]) (congrArg (fun z9 => [Value.int z9]) (show (0 : Int32) = (bI (decide (¬ wvM z fd f n = 0))) from by { have h4 : y = n := (by { rcases Nat.lt_or_ge y n with q | q; exact absurd c_45 (nI_ge q (by omega)); omega }); first | rw [h4] | simp [bI, c_70] })) ?_
                exact g_zret (pc := 78) C hr (by first | rfl | exact bI_nar _) hlk (by first | decide | omega) (by first | decide | omega) (by first | decide | omega) dX6_toppleWave_78 ⟨rfl, rfl⟩
              · refine g_iconst (pc := 73) (v := 1) C (by decide) dX6_toppleWave_73 ?_
                refine g_goto (pc := 74) C 78 (by decide) dX6_toppleWave_74 ?_
                refine G.eqw (ws' := [(h, .inr (7, [.ref jj, .ref dd, .int (nI n), .int (nI z)])), (jj, aI k 36 fj), (dd, aI k 6 fd), (pp, .inr (10, [.ref h, .ref r1, .ref r2, .int ((wvS n z fj fd (wvM z fd f n) (f, ct, tk) n).2.2)])), (r1, .inr (12, [.ref a1])), (a1, aI k 6 ((wvS n z fj fd (wvM z fd f n) (f, ct, tk) y).1)), (r2, .inr (12, [.ref a2])), (a2, aI k 6 ((wvS n z fj fd (wvM z fd f n) (f, ct, tk) y).2.1))]) (congrArg (β := va_W) (fun z9 => [(h, .inr (7, [.ref jj, .ref dd, .int (nI n), .int (nI z)])), (jj, aI k 36 fj), (dd, aI k 6 fd), (pp, .inr (10, [.ref h, .ref r1, .ref r2, .int z9])), (r1, .inr (12, [.ref a1])), (a1, aI k 6 ((wvS n z fj fd (wvM z fd f n) (f, ct, tk) y).1)), (r2, .inr (12, [.ref a2])), (a2, aI k 6 ((wvS n z fj fd (wvM z fd f n) (f, ct, tk) y).2.1))]) (show ((wvS n z fj fd (wvM z fd f n) (f, ct, tk) y).2.2 : Int32) = (wvS n z fj fd (wvM z fd f n) (f, ct, tk) n).2.2 from by { have h4 : y = n := (by { rcases Nat.lt_or_ge y n with q | q; exact absurd c_45 (nI_ge q (by omega)); omega }); first | rw [h4] | simp [bI, c_70] })) ?_
                refine G.fn ((wvS n z fj fd (wvM z fd f n) (f, ct, tk) n).1) 5 [(h, .inr (7, [.ref jj, .ref dd, .int (nI n), .int (nI z)])), (jj, aI k 36 fj), (dd, aI k 6 fd), (pp, .inr (10, [.ref h, .ref r1, .ref r2, .int ((wvS n z fj fd (wvM z fd f n) (f, ct, tk) n).2.2)])), (r1, .inr (12, [.ref a1])), (a1, aI k 6 ((wvS n z fj fd (wvM z fd f n) (f, ct, tk) n).1)), (r2, .inr (12, [.ref a2])), (a2, aI k 6 ((wvS n z fj fd (wvM z fd f n) (f, ct, tk) y).2.1))] rfl (fun j hj => by { have h4 : y = n := (by { rcases Nat.lt_or_ge y n with q | q; exact absurd c_45 (nI_ge q (by omega)); omega }); first | rw [h4] | simp [bI, c_70] }) rfl ?_
                refine G.fn ((wvS n z fj fd (wvM z fd f n) (f, ct, tk) n).2.1) 7 [(h, .inr (7, [.ref jj, .ref dd, .int (nI n), .int (nI z)])), (jj, aI k 36 fj), (dd, aI k 6 fd), (pp, .inr (10, [.ref h, .ref r1, .ref r2, .int ((wvS n z fj fd (wvM z fd f n) (f, ct, tk) n).2.2)])), (r1, .inr (12, [.ref a1])), (a1, aI k 6 ((wvS n z fj fd (wvM z fd f n) (f, ct, tk) n).1)), (r2, .inr (12, [.ref a2])), (a2, aI k 6 ((wvS n z fj fd (wvM z fd f n) (f, ct, tk) n).2.1))] rfl (fun j hj => by { have h4 : y = n := (by { rcases Nat.lt_or_ge y n with q | q; exact absurd c_45 (nI_ge q (by omega)); omega }); first | rw [h4] | simp [bI, c_70] }) rfl ?_
                refine G.eqs (st' := [.int (bI (decide (¬ wvM z fd f n = 0)))]) (congrArg (fun z9 => [Value.int z9]) (show (1 : Int32) = (bI (decide (¬ wvM z fd f n = 0))) from by { have h4 : y = n := (by { rcases Nat.lt_or_ge y n with q | q; exact absurd c_45 (nI_ge q (by omega)); omega }); first | rw [h4] | simp [bI, c_70] })) ?_
                exact g_zret (pc := 78) C hr (by first | rfl | exact bI_nar _) hlk (by first | decide | omega) (by first | decide | omega) (by first | decide | omega) dX6_toppleWave_78 ⟨rfl, rfl⟩
            · have hl45 : y < n := by rcases Nat.lt_or_ge y n with q | q; exact q; exact absurd (nI_le q (by omega)) c_45
              refine g_iload_n (pc := 48) C 1 rfl rfl dX6_toppleWave_48 ?_
              refine g_iload_n (pc := 49) C 2 rfl rfl dX6_toppleWave_49 ?_
              refine g_ishr (pc := 50) C dX6_toppleWave_50 ?_
              refine g_iconst (pc := 51) (v := 1) C (by decide) dX6_toppleWave_51 ?_
              refine g_iand (pc := 52) C dX6_toppleWave_52 ?_
              refine g_iconst (pc := 53) (v := 1) C (by decide) dX6_toppleWave_53 ?_
              refine g_icmp_ne (pc := 54) C 63 (by decide) dX6_toppleWave_54 (fun c_54 => ?_) (fun c_54 => ?_)
              · refine g_iinc (pc := 63) (n := 1) (v := (nI (y + 1))) C 2 [(2, .int (nI (y + 1))), (0, .ref pp), (1, .int (wvM z fd f n))] rfl (nI_1 y) dX6_toppleWave_63 (by decide) rfl ?_
                refine g_goto (pc := 66) C 37 (by decide) dX6_toppleWave_66 ?_
                refine G.loc [1, 2, 0] (lv' := [(0, .ref pp), (1, .int (wvM z fd f n)), (2, .int (nI (y + 1)))]) rfl ?_
                refine G.eqw (ws' := [(h, .inr (7, [.ref jj, .ref dd, .int (nI n), .int (nI z)])), (jj, aI k 36 fj), (dd, aI k 6 fd), (pp, .inr (10, [.ref h, .ref r1, .ref r2, .int ((wvS n z fj fd (wvM z fd f n) (f, ct, tk) (y + 1)).2.2)])), (r1, .inr (12, [.ref a1])), (a1, aI k 6 ((wvS n z fj fd (wvM z fd f n) (f, ct, tk) y).1)), (r2, .inr (12, [.ref a2])), (a2, aI k 6 ((wvS n z fj fd (wvM z fd f n) (f, ct, tk) y).2.1))]) (congrArg (β := va_W) (fun z9 => [(h, .inr (7, [.ref jj, .ref dd, .int (nI n), .int (nI z)])), (jj, aI k 36 fj), (dd, aI k 6 fd), (pp, .inr (10, [.ref h, .ref r1, .ref r2, .int z9])), (r1, .inr (12, [.ref a1])), (a1, aI k 6 ((wvS n z fj fd (wvM z fd f n) (f, ct, tk) y).1)), (r2, .inr (12, [.ref a2])), (a2, aI k 6 ((wvS n z fj fd (wvM z fd f n) (f, ct, tk) y).2.1))]) (show ((wvS n z fj fd (wvM z fd f n) (f, ct, tk) y).2.2 : Int32) = (wvS n z fj fd (wvM z fd f n) (f, ct, tk) (y + 1)).2.2 from by simp [wvS, c_54])) ?_
                refine G.fn ((wvS n z fj fd (wvM z fd f n) (f, ct, tk) (y + 1)).1) 5 [(h, .inr (7, [.ref jj, .ref dd, .int (nI n), .int (nI z)])), (jj, aI k 36 fj), (dd, aI k 6 fd), (pp, .inr (10, [.ref h, .ref r1, .ref r2, .int ((wvS n z fj fd (wvM z fd f n) (f, ct, tk) (y + 1)).2.2)])), (r1, .inr (12, [.ref a1])), (a1, aI k 6 ((wvS n z fj fd (wvM z fd f n) (f, ct, tk) (y + 1)).1)), (r2, .inr (12, [.ref a2])), (a2, aI k 6 ((wvS n z fj fd (wvM z fd f n) (f, ct, tk) y).2.1))] rfl (fun j hj => by simp [wvS, c_54]) rfl ?_
                refine G.fn ((wvS n z fj fd (wvM z fd f n) (f, ct, tk) (y + 1)).2.1) 7 [(h, .inr (7, [.ref jj, .ref dd, .int (nI n), .int (nI z)])), (jj, aI k 36 fj), (dd, aI k 6 fd), (pp, .inr (10, [.ref h, .ref r1, .ref r2, .int ((wvS n z fj fd (wvM z fd f n) (f, ct, tk) (y + 1)).2.2)])), (r1, .inr (12, [.ref a1])), (a1, aI k 6 ((wvS n z fj fd (wvM z fd f n) (f, ct, tk) (y + 1)).1)), (r2, .inr (12, [.ref a2])), (a2, aI k 6 ((wvS n z fj fd (wvM z fd f n) (f, ct, tk) (y + 1)).2.1))] rfl (fun j hj => by simp [wvS, c_54]) rfl ?_
                exact ih_37 (y + 1) (by omega) (by omega)
              · refine g_aload_n (pc := 57) C 0 rfl rfl dX6_toppleWave_57 ?_
                refine g_iload_n (pc := 58) C 2 rfl rfl dX6_toppleWave_58 ?_
                refine g_iconst (pc := 59) (v := 1) C (by decide) dX6_toppleWave_59 ?_
                refine g_callV (pc := 60) (cells := 0) (slots := 0) (g := 0) (As := [.int (nI y), .int 1]) (st := []) (T := TX6) (q0 := 3) C (nA := 2) rfl (c_X6_toppleTimes h jj dd n z fj fd pp r1 a1 r2 a2 ((wvS n z fj fd (wvM z fd f n) (f, ct, tk) y).1) ((wvS n z fj fd (wvM z fd f n) (f, ct, tk) y).2.1) ((wvS n z fj fd (wvM z fd f n) (f, ct, tk) y).2.2) y 1 (by first | assumption | decide | omega) (by first | assumption | decide | omega) (by first | assumption | decide | omega)) q_71 q_72 q_70 q_43 q_69 (by decide +kernel) rfl rfl dX6_toppleWave_60 ⟨Nat.le_of_ble_eq_true rfl, Nat.le_of_ble_eq_true rfl⟩ [0, 1, 2, 3, 4, 5, 6, 7] [] rfl (wr := []) rfl (by decide) (by decide) (by decide) (Nat.le_of_ble_eq_true rfl) ⟨Nat.le_of_ble_eq_true rfl, Nat.le_of_ble_eq_true rfl⟩ (fun rv w1 h1 => ?_)
                obtain ⟨rfl, rfl⟩ := h1
                refine G.aft [0, 1, 2, 3, 4, 5, 6, 7] (ws' := [(h, .inr (7, [.ref jj, .ref dd, .int (nI n), .int (nI z)])), (jj, aI k 36 fj), (dd, aI k 6 fd), (pp, .inr (10, [.ref h, .ref r1, .ref r2, .int (tpT z fj 1 y ((wvS n z fj fd (wvM z fd f n) (f, ct, tk) y).2.2) n)])), (r1, .inr (12, [.ref a1])), (a1, aI k 6 (tpF z fj 1 y (upd ((wvS n z fj fd (wvM z fd f n) (f, ct, tk) y).1) y (((wvS n z fj fd (wvM z fd f n) (f, ct, tk) y).1) y + (-1) * fd y)) n)), (r2, .inr (12, [.ref a2])), (a2, aI k 6 (upd ((wvS n z fj fd (wvM z fd f n) (f, ct, tk) y).2.1) y (((wvS n z fj fd (wvM z fd f n) (f, ct, tk) y).2.1) y + 1)))]) (st' := []) (cells' := 0) (slots' := 0) (g' := 0) (by decide) rfl rfl rfl rfl rfl ?_
                refine g_iinc (pc := 63) (n := 1) (v := (nI (y + 1))) C 2 [(2, .int (nI (y + 1))), (0, .ref pp), (1, .int (wvM z fd f n))] rfl (nI_1 y) dX6_toppleWave_63 (by decide) rfl ?_
                refine g_goto (pc := 66) C 37 (by decide) dX6_toppleWave_66 ?_
                refine G.loc [1, 2, 0] (lv' := [(0, .ref pp), (1, .int (wvM z fd f n)), (2, .int (nI (y + 1)))]) rfl ?_
                refine G.eqw (ws' := [(h, .inr (7, [.ref jj, .ref dd, .int (nI n), .int (nI z)])), (jj, aI k 36 fj), (dd, aI k 6 fd), (pp, .inr (10, [.ref h, .ref r1, .ref r2, .int ((wvS n z fj fd (wvM z fd f n) (f, ct, tk) (y + 1)).2.2)])), (r1, .inr (12, [.ref a1])), (a1, aI k 6 (tpF z fj 1 y (upd ((wvS n z fj fd (wvM z fd f n) (f, ct, tk) y).1) y (((wvS n z fj fd (wvM z fd f n) (f, ct, tk) y).1) y + (-1) * fd y)) n)), (r2, .inr (12, [.ref a2])), (a2, aI k 6 (upd ((wvS n z fj fd (wvM z fd f n) (f, ct, tk) y).2.1) y (((wvS n z fj fd (wvM z fd f n) (f, ct, tk) y).2.1) y + 1)))]) (congrArg (β := va_W) (fun z9 => [(h, .inr (7, [.ref jj, .ref dd, .int (nI n), .int (nI z)])), (jj, aI k 36 fj), (dd, aI k 6 fd), (pp, .inr (10, [.ref h, .ref r1, .ref r2, .int z9])), (r1, .inr (12, [.ref a1])), (a1, aI k 6 (tpF z fj 1 y (upd ((wvS n z fj fd (wvM z fd f n) (f, ct, tk) y).1) y (((wvS n z fj fd (wvM z fd f n) (f, ct, tk) y).1) y + (-1) * fd y)) n)), (r2, .inr (12, [.ref a2])), (a2, aI k 6 (upd ((wvS n z fj fd (wvM z fd f n) (f, ct, tk) y).2.1) y (((wvS n z fj fd (wvM z fd f n) (f, ct, tk) y).2.1) y + 1)))]) (show ((tpT z fj 1 y ((wvS n z fj fd (wvM z fd f n) (f, ct, tk) y).2.2) n) : Int32) = (wvS n z fj fd (wvM z fd f n) (f, ct, tk) (y + 1)).2.2 from by simp [wvS, c_54])) ?_
                refine G.fn ((wvS n z fj fd (wvM z fd f n) (f, ct, tk) (y + 1)).1) 5 [(h, .inr (7, [.ref jj, .ref dd, .int (nI n), .int (nI z)])), (jj, aI k 36 fj), (dd, aI k 6 fd), (pp, .inr (10, [.ref h, .ref r1, .ref r2, .int ((wvS n z fj fd (wvM z fd f n) (f, ct, tk) (y + 1)).2.2)])), (r1, .inr (12, [.ref a1])), (a1, aI k 6 ((wvS n z fj fd (wvM z fd f n) (f, ct, tk) (y + 1)).1)), (r2, .inr (12, [.ref a2])), (a2, aI k 6 (upd ((wvS n z fj fd (wvM z fd f n) (f, ct, tk) y).2.1) y (((wvS n z fj fd (wvM z fd f n) (f, ct, tk) y).2.1) y + 1)))] rfl (fun j hj => by simp [wvS, c_54]) rfl ?_
                refine G.fn ((wvS n z fj fd (wvM z fd f n) (f, ct, tk) (y + 1)).2.1) 7 [(h, .inr (7, [.ref jj, .ref dd, .int (nI n), .int (nI z)])), (jj, aI k 36 fj), (dd, aI k 6 fd), (pp, .inr (10, [.ref h, .ref r1, .ref r2, .int ((wvS n z fj fd (wvM z fd f n) (f, ct, tk) (y + 1)).2.2)])), (r1, .inr (12, [.ref a1])), (a1, aI k 6 ((wvS n z fj fd (wvM z fd f n) (f, ct, tk) (y + 1)).1)), (r2, .inr (12, [.ref a2])), (a2, aI k 6 ((wvS n z fj fd (wvM z fd f n) (f, ct, tk) (y + 1)).2.1))] rfl (fun j hj => by simp [wvS, c_54]) rfl ?_
                exact ih_37 (y + 1) (by omega) (by omega)
        refine G.loc [1, 2, 0] (lv' := [(0, .ref pp), (1, .int (wvM z fd f i)), (2, .int 0)]) rfl ?_
        refine G.eqw (ws' := [(h, .inr (7, [.ref jj, .ref dd, .int (nI n), .int (nI z)])), (jj, aI k 36 fj), (dd, aI k 6 fd), (pp, .inr (10, [.ref h, .ref r1, .ref r2, .int ((wvS n z fj fd (wvM z fd f n) (f, ct, tk) 0).2.2)])), (r1, .inr (12, [.ref a1])), (a1, aI k 6 f), (r2, .inr (12, [.ref a2])), (a2, aI k 6 ct)]) (congrArg (β := va_W) (fun z9 => [(h, .inr (7, [.ref jj, .ref dd, .int (nI n), .int (nI z)])), (jj, aI k 36 fj), (dd, aI k 6 fd), (pp, .inr (10, [.ref h, .ref r1, .ref r2, .int z9])), (r1, .inr (12, [.ref a1])), (a1, aI k 6 f), (r2, .inr (12, [.ref a2])), (a2, aI k 6 ct)]) (show (tk : Int32) = (wvS n z fj fd (wvM z fd f n) (f, ct, tk) 0).2.2 from by rfl)) ?_
        refine G.fn ((wvS n z fj fd (wvM z fd f n) (f, ct, tk) 0).1) 5 [(h, .inr (7, [.ref jj, .ref dd, .int (nI n), .int (nI z)])), (jj, aI k 36 fj), (dd, aI k 6 fd), (pp, .inr (10, [.ref h, .ref r1, .ref r2, .int ((wvS n z fj fd (wvM z fd f n) (f, ct, tk) 0).2.2)])), (r1, .inr (12, [.ref a1])), (a1, aI k 6 ((wvS n z fj fd (wvM z fd f n) (f, ct, tk) 0).1)), (r2, .inr (12, [.ref a2])), (a2, aI k 6 ct)] rfl (fun j hj => by rfl) rfl ?_
        refine G.fn ((wvS n z fj fd (wvM z fd f n) (f, ct, tk) 0).2.1) 7 [(h, .inr (7, [.ref jj, .ref dd, .int (nI n), .int (nI z)])), (jj, aI k 36 fj), (dd, aI k 6 fd), (pp, .inr (10, [.ref h, .ref r1, .ref r2, .int ((wvS n z fj fd (wvM z fd f n) (f, ct, tk) 0).2.2)])), (r1, .inr (12, [.ref a1])), (a1, aI k 6 ((wvS n z fj fd (wvM z fd f n) (f, ct, tk) 0).1)), (r2, .inr (12, [.ref a2])), (a2, aI k 6 ((wvS n z fj fd (wvM z fd f n) (f, ct, tk) 0).2.1))] rfl (fun j hj => by rfl) rfl ?_
        refine G.eql (lv' := [(0, .ref pp), (1, .int (wvM z fd f n)), (2, .int (nI 0))]) ((congrArg (β := List (Nat × Value)) (fun z9 => [(0, .ref pp), (1, .int z9), (2, .int 0)]) (show ((wvM z fd f i) : Int32) = (wvM z fd f n) from by first | rfl | exact nI_0.symm | (rw [h3]) | (simp [h3]))).trans (congrArg (β := List (Nat × Value)) (fun z9 => [(0, .ref pp), (1, .int (wvM z fd f n)), (2, .int z9)]) (show (0 : Int32) = (nI 0) from by first | rfl | exact nI_0.symm | (rw [h3]) | (simp [h3])))) ?_
        exact key_37 (n - 0 + 1) 0 (by omega) (Nat.lt_succ_self _)
      · have hl12 : i < n := by rcases Nat.lt_or_ge i n with q | q; exact q; exact absurd (nI_le q (by omega)) c_12
        refine g_aload_n (pc := 15) C 0 rfl rfl dX6_toppleWave_15 ?_
        refine g_iload_n (pc := 16) C 2 rfl rfl dX6_toppleWave_16 ?_
        refine g_callV (pc := 17) (cells := 0) (slots := 0) (g := 0) (As := [.int (nI i)]) (st := []) (T := TX6) (q0 := 3) C (nA := 1) rfl (c_X6_canTopple h jj dd n z fj fd pp r1 a1 r2 a2 f ct tk i (by first | assumption | decide | omega) (by first | assumption | decide | omega)) q_75 q_76 q_74 q_43 q_73 (by decide +kernel) rfl rfl dX6_toppleWave_17 ⟨Nat.le_of_ble_eq_true rfl, Nat.le_of_ble_eq_true rfl⟩ [0, 1, 2, 3, 4, 5, 6, 7] [] rfl (wr := []) rfl (by decide) (by decide) (by decide) (Nat.le_of_ble_eq_true rfl) ⟨Nat.le_of_ble_eq_true rfl, Nat.le_of_ble_eq_true rfl⟩ (fun rv w1 h1 => ?_)
        obtain ⟨rfl, rfl⟩ := h1
        refine G.aft [0, 1, 2, 3, 4, 5, 6, 7] (ws' := [(h, .inr (7, [.ref jj, .ref dd, .int (nI n), .int (nI z)])), (jj, aI k 36 fj), (dd, aI k 6 fd), (pp, .inr (10, [.ref h, .ref r1, .ref r2, .int tk])), (r1, .inr (12, [.ref a1])), (a1, aI k 6 f), (r2, .inr (12, [.ref a2])), (a2, aI k 6 ct)]) (st' := [.int (bI (cTop z fd f i))]) (cells' := 0) (slots' := 0) (g' := 0) (by decide) rfl rfl rfl rfl rfl ?_
        refine g_if_eq (pc := 20) C 29 (by decide) dX6_toppleWave_20 (fun c_20 => ?_) (fun c_20 => ?_)
        · simp only [bI_0, decide_eq_false_iff_not, decide_eq_true_eq, Bool.not_eq_false, Decidable.not_not] at c_20
          refine g_iinc (pc := 29) (n := 1) (v := (nI (i + 1))) C 2 [(2, .int (nI (i + 1))), (0, .ref pp), (1, .int (wvM z fd f i))] rfl (nI_1 i) dX6_toppleWave_29 (by decide) rfl ?_
          refine g_goto (pc := 32) C 4 (by decide) dX6_toppleWave_32 ?_
          refine G.loc [1, 2, 0] (lv' := [(0, .ref pp), (1, .int (wvM z fd f i)), (2, .int (nI (i + 1)))]) rfl ?_
          refine G.eql (lv' := [(0, .ref pp), (1, .int (wvM z fd f (i + 1))), (2, .int (nI (i + 1)))]) (congrArg (β := List (Nat × Value)) (fun z9 => [(0, .ref pp), (1, .int z9), (2, .int (nI (i + 1)))]) (show ((wvM z fd f i) : Int32) = (wvM z fd f (i + 1)) from by simp [wvM, c_20])) ?_
          exact ih_4 (i + 1) (by omega) (by omega)
        · simp only [bI_0, decide_eq_false_iff_not, decide_eq_true_eq, Bool.not_eq_false, Decidable.not_not] at c_20
          refine g_iload_n (pc := 23) C 1 rfl rfl dX6_toppleWave_23 ?_
          refine g_iconst (pc := 24) (v := 1) C (by decide) dX6_toppleWave_24 ?_
          refine g_iload_n (pc := 25) C 2 rfl rfl dX6_toppleWave_25 ?_
          refine g_ishl (pc := 26) C dX6_toppleWave_26 ?_
          refine g_ior (pc := 27) C dX6_toppleWave_27 ?_
          refine g_istore_n (pc := 28) C [(1, .int ((wvM z fd f i) ||| (1 <<< ((nI i) &&& 31)))), (0, .ref pp), (2, .int (nI i))] rfl dX6_toppleWave_28 (by decide) rfl ?_
          refine g_iinc (pc := 29) (n := 1) (v := (nI (i + 1))) C 2 [(2, .int (nI (i + 1))), (1, .int ((wvM z fd f i) ||| (1 <<< ((nI i) &&& 31)))), (0, .ref pp)] rfl (nI_1 i) dX6_toppleWave_29 (by decide) rfl ?_
          refine g_goto (pc := 32) C 4 (by decide) dX6_toppleWave_32 ?_
          refine G.loc [2, 1, 0] (lv' := [(0, .ref pp), (1, .int ((wvM z fd f i) ||| (1 <<< ((nI i) &&& 31)))), (2, .int (nI (i + 1)))]) rfl ?_
          refine G.eql (lv' := [(0, .ref pp), (1, .int (wvM z fd f (i + 1))), (2, .int (nI (i + 1)))]) (congrArg (β := List (Nat × Value)) (fun z9 => [(0, .ref pp), (1, .int z9), (2, .int (nI (i + 1)))]) (show (((wvM z fd f i) ||| (1 <<< ((nI i) &&& 31))) : Int32) = (wvM z fd f (i + 1)) from by simp [wvM, c_20])) ?_
          exact ih_4 (i + 1) (by omega) (by omega)
  refine G.loc [2, 1, 0] (lv' := [(0, .ref pp), (1, .int 0), (2, .int 0)]) rfl ?_
  refine G.eql (lv' := [(0, .ref pp), (1, .int (wvM z fd f 0)), (2, .int (nI 0))]) ((congrArg (β := List (Nat × Value)) (fun z9 => [(0, .ref pp), (1, .int z9), (2, .int 0)]) (show (0 : Int32) = (wvM z fd f 0) from by first | rfl | exact nI_0.symm)).trans (congrArg (β := List (Nat × Value)) (fun z9 => [(0, .ref pp), (1, .int (wvM z fd f 0)), (2, .int z9)]) (show (0 : Int32) = (nI 0) from by first | rfl | exact nI_0.symm))) ?_
  exact key_4 (n - 0 + 1) 0 (by omega) (Nat.lt_succ_self _)
set_option maxRecDepth 100000 in
set_option maxHeartbeats 400000 in
theorem c_X7_init {l : Launch} {D : va_G} {k : Nat → ClassId} (o7 : Nat) (h : Nat)  : CM l D k yX7_init cX7_init 2 none  2 33 [.ref o7, .ref h] [(o7, .inr (11, [.null, .null, .null]))] (fun rv9 w9 => rv9 = none ∧ ∃ (r1 : Nat) (a1 : Nat) (r2 : Nat) (a2 : Nat), w9 = [(o7, .inr (11, [.ref h, .ref r1, .ref r2])), (r1, .inr (12, [.ref a1])), (a1, aI k 6 (fun _ => 0)), (r2, .inr (12, [.ref a2])), (a2, aI k 6 (fun _ => 0))]) 4 14 4 := by
  refine CM.of (lv0 := [(0, .ref o7), (1, .ref h)]) (by decide +kernel) (Nat.le_of_ble_eq_true rfl) rfl ?_
  intro p e s m below meth c C hr hlk hin had
  refine g_aload_n (pc := 0) C 0 rfl rfl dX7_init_0 ?_
  refine g_obj (pc := 1) C q_77 q_2 q_3 (Nat.le_of_ble_eq_true rfl) (Nat.le_of_ble_eq_true rfl) dX7_init_1 ?_
  refine g_aload_n (pc := 4) C 0 rfl rfl dX7_init_4 ?_
  refine g_new (pc := 5) (ci := 12) (cells := 0) (slots := 0) (g := 0) C [.null] (T := TX8) inX8 tyX8 tyX8_ok q_78 q_29 q_6 rfl (fun j hj => by rcases (show j = 0 by omega) with rfl <;> rfl) (Nat.le_of_ble_eq_true rfl) (Nat.le_of_ble_eq_true rfl) dX7_init_5 (fun q1 => ?_)
  refine G.eqw (ws' := [(o7, .inr (11, [.null, .null, .null])), (q1, .inr (12, [.null]))]) rfl ?_
  refine g_dup (pc := 8) C rfl dX7_init_8 ?_
  refine g_bipush (pc := 9) (v := 6) C (by decide) dX7_init_9 ?_
  refine g_callI (pc := 11) (cells := 1) (slots := 1) (g := 1) (As := [.int 6]) (st := [.ref q1, .ref o7]) C (nA := 1) rfl (c_X8_init_6 q1 ) q_79 q_33 q_6 q_31 rfl rfl (by decide +kernel) dX7_init_11 ⟨Nat.le_of_ble_eq_true rfl, Nat.le_of_ble_eq_true rfl⟩ [1] [0] rfl (wr := [(o7, .inr (11, [.null, .null, .null]))]) rfl (by decide) (by decide) (by decide) (Nat.le_of_ble_eq_true rfl) ⟨Nat.le_of_ble_eq_true rfl, Nat.le_of_ble_eq_true rfl⟩ (fun rv w1 h1 => ?_)
  obtain ⟨rfl, q2, rfl⟩ := h1
  refine G.aft [0, 1, 2] (ws' := [(o7, .inr (11, [.null, .null, .null])), (q1, .inr (12, [.ref q2])), (q2, aI k 6 (fun _ => 0))]) (st' := [.ref q1, .ref o7]) (cells' := 2) (slots' := 7) (g' := 2) (by decide) rfl rfl rfl rfl rfl ?_
  refine g_putF (pc := 14) C (T := TX7) inX7 0 rfl rfl 1 (by decide) q_80 rfl tyX7 tyX7_ok nmX7 rfl hin rfl [(o7, .inr (11, [.null, .ref q1, .null])), (q1, .inr (12, [.ref q2])), (q2, aI k 6 (fun _ => 0))] (tyX7_ok 1 (by decide)) rfl rfl (Nat.le_of_ble_eq_true rfl) rfl dX7_init_14 ?_
  refine g_aload_n (pc := 17) C 0 rfl rfl dX7_init_17 ?_
  refine g_new (pc := 18) (ci := 12) (cells := 2) (slots := 7) (g := 2) C [.null] (T := TX8) inX8 tyX8 tyX8_ok q_78 q_29 q_6 rfl (fun j hj => by rcases (show j = 0 by omega) with rfl <;> rfl) (Nat.le_of_ble_eq_true rfl) (Nat.le_of_ble_eq_true rfl) dX7_init_18 (fun q3 => ?_)
  refine G.eqw (ws' := [(o7, .inr (11, [.null, .ref q1, .null])), (q1, .inr (12, [.ref q2])), (q2, aI k 6 (fun _ => 0)), (q3, .inr (12, [.null]))]) rfl ?_
  refine g_dup (pc := 21) C rfl dX7_init_21 ?_
  refine g_bipush (pc := 22) (v := 6) C (by decide) dX7_init_22 ?_
  refine g_callI (pc := 24) (cells := 3) (slots := 8) (g := 3) (As := [.int 6]) (st := [.ref q3, .ref o7]) C (nA := 1) rfl (c_X8_init_6 q3 ) q_79 q_33 q_6 q_31 rfl rfl (by decide +kernel) dX7_init_24 ⟨Nat.le_of_ble_eq_true rfl, Nat.le_of_ble_eq_true rfl⟩ [3] [0, 1, 2] rfl (wr := [(o7, .inr (11, [.null, .ref q1, .null])), (q1, .inr (12, [.ref q2])), (q2, aI k 6 (fun _ => 0))]) rfl (by decide) (by decide) (by decide) (Nat.le_of_ble_eq_true rfl) ⟨Nat.le_of_ble_eq_true rfl, Nat.le_of_ble_eq_true rfl⟩ (fun rv w1 h1 => ?_)
  obtain ⟨rfl, q4, rfl⟩ := h1
  refine G.aft [0, 1, 2, 3, 4] (ws' := [(o7, .inr (11, [.null, .ref q1, .null])), (q1, .inr (12, [.ref q2])), (q2, aI k 6 (fun _ => 0)), (q3, .inr (12, [.ref q4])), (q4, aI k 6 (fun _ => 0))]) (st' := [.ref q3, .ref o7]) (cells' := 4) (slots' := 14) (g' := 4) (by decide) rfl rfl rfl rfl rfl ?_
  refine g_putF (pc := 27) C (T := TX7) inX7 0 rfl rfl 2 (by decide) q_81 rfl tyX7 tyX7_ok nmX7 rfl hin rfl [(o7, .inr (11, [.null, .ref q1, .ref q3])), (q1, .inr (12, [.ref q2])), (q2, aI k 6 (fun _ => 0)), (q3, .inr (12, [.ref q4])), (q4, aI k 6 (fun _ => 0))] (tyX7_ok 2 (by decide)) rfl rfl (Nat.le_of_ble_eq_true rfl) rfl dX7_init_27 ?_
  refine g_aload_n (pc := 30) C 0 rfl rfl dX7_init_30 ?_
  refine g_aload_n (pc := 31) C 1 rfl rfl dX7_init_31 ?_
  refine g_putF (pc := 32) C (T := TX7) inX7 0 rfl rfl 0 (by decide) q_82 rfl tyX7 tyX7_ok nmX7 rfl hin rfl [(o7, .inr (11, [.ref h, .ref q1, .ref q3])), (q1, .inr (12, [.ref q2])), (q2, aI k 6 (fun _ => 0)), (q3, .inr (12, [.ref q4])), (q4, aI k 6 (fun _ => 0))] (tyX7_ok 0 (by decide)) rfl rfl (Nat.le_of_ble_eq_true rfl) rfl dX7_init_32 ?_
  exact g_vret (pc := 35) C hr hlk (by first | decide | omega) (by first | decide | omega) (by first | decide | omega) dX7_init_35 ⟨rfl, q1, q2, q3, q4, rfl⟩
set_option maxRecDepth 100000 in
set_option maxHeartbeats 400000 in
theorem c_X7_clear {l : Launch} {D : va_G} {k : Nat → ClassId} (o7 : Nat) (h : Nat) (s1 : Nat) (b1 : Nat) (s2 : Nat) (b2 : Nat) (f7 : Nat → Int32) (g7 : Nat → Int32)  : CM l D k yX7_clear cX7_clear 1 none  1 22 [.ref o7] [(o7, .inr (11, [.ref h, .ref s1, .ref s2])), (s1, .inr (12, [.ref b1])), (b1, aI k 6 f7), (s2, .inr (12, [.ref b2])), (b2, aI k 6 g7)] (is1 none [(o7, .inr (11, [.ref h, .ref s1, .ref s2])), (s1, .inr (12, [.ref b1])), (b1, aI k 6 (fun _ => 0)), (s2, .inr (12, [.ref b2])), (b2, aI k 6 (fun _ => 0))]) 0 0 0 := by
  refine CM.of (lv0 := [(0, .ref o7)]) (by decide +kernel) (Nat.le_of_ble_eq_true rfl) rfl ?_
  intro p e s m below meth c C hr hlk hin had
  refine g_aload_n (pc := 0) C 0 rfl rfl dX7_clear_0 ?_
  refine g_get (pc := 1) C (T := TX7) inX7 0 rfl rfl 1 (by decide) q_80 rfl rfl dX7_clear_1 ?_
  refine g_iconst (pc := 4) (v := 0) C (by decide) dX7_clear_4 ?_
  refine g_callV (pc := 5) (cells := 0) (slots := 0) (g := 0) (As := [.int 0]) (st := []) (T := TX8) (q0 := 1) C (nA := 1) rfl (c_X8_fill s1 b1 6 f7 0 (by first | assumption | decide | omega)) q_83 q_41 q_39 q_6 q_38 (by decide +kernel) rfl rfl dX7_clear_5 ⟨Nat.le_of_ble_eq_true rfl, Nat.le_of_ble_eq_true rfl⟩ [1, 2] [0, 3, 4] rfl (wr := [(o7, .inr (11, [.ref h, .ref s1, .ref s2])), (s2, .inr (12, [.ref b2])), (b2, aI k 6 g7)]) rfl (by decide) (by decide) (by decide) (Nat.le_of_ble_eq_true rfl) ⟨Nat.le_of_ble_eq_true rfl, Nat.le_of_ble_eq_true rfl⟩ (fun rv w1 h1 => ?_)
  obtain ⟨rfl, rfl⟩ := h1
  refine G.aft [0, 3, 4, 1, 2] (ws' := [(o7, .inr (11, [.ref h, .ref s1, .ref s2])), (s1, .inr (12, [.ref b1])), (b1, aI k 6 (fun _ => 0)), (s2, .inr (12, [.ref b2])), (b2, aI k 6 g7)]) (st' := []) (cells' := 0) (slots' := 0) (g' := 0) (by decide) rfl rfl rfl rfl rfl ?_
  refine g_aload_n (pc := 8) C 0 rfl rfl dX7_clear_8 ?_
  refine g_get (pc := 9) C (T := TX7) inX7 0 rfl rfl 2 (by decide) q_81 rfl rfl dX7_clear_9 ?_
  refine g_iconst (pc := 12) (v := 0) C (by decide) dX7_clear_12 ?_
  refine g_callV (pc := 13) (cells := 0) (slots := 0) (g := 0) (As := [.int 0]) (st := []) (T := TX8) (q0 := 3) C (nA := 1) rfl (c_X8_fill s2 b2 6 g7 0 (by first | assumption | decide | omega)) q_83 q_41 q_39 q_6 q_38 (by decide +kernel) rfl rfl dX7_clear_13 ⟨Nat.le_of_ble_eq_true rfl, Nat.le_of_ble_eq_true rfl⟩ [3, 4] [0, 1, 2] rfl (wr := [(o7, .inr (11, [.ref h, .ref s1, .ref s2])), (s1, .inr (12, [.ref b1])), (b1, aI k 6 (fun _ => 0))]) rfl (by decide) (by decide) (by decide) (Nat.le_of_ble_eq_true rfl) ⟨Nat.le_of_ble_eq_true rfl, Nat.le_of_ble_eq_true rfl⟩ (fun rv w1 h1 => ?_)
  obtain ⟨rfl, rfl⟩ := h1
  refine G.aft [0, 1, 2, 3, 4] (ws' := [(o7, .inr (11, [.ref h, .ref s1, .ref s2])), (s1, .inr (12, [.ref b1])), (b1, aI k 6 (fun _ => 0)), (s2, .inr (12, [.ref b2])), (b2, aI k 6 (fun _ => 0))]) (st' := []) (cells' := 0) (slots' := 0) (g' := 0) (by decide) rfl rfl rfl rfl rfl ?_
  exact g_vret (pc := 16) C hr hlk (by first | decide | omega) (by first | decide | omega) (by first | decide | omega) dX7_clear_16 ⟨rfl, rfl⟩
set_option maxRecDepth 100000 in
set_option maxHeartbeats 400000 in
theorem c_X0_clear {l : Launch} {D : va_G} {k : Nat → ClassId} (o0 : Nat) (h : Nat) (o2 : Nat) (t1 : Nat) (t2 : Nat) (t3 : Nat) (t4 : Nat) (t5 : Nat) (u1 : Nat) (f0 : Nat → Int32)  : CM l D k yX0_clear cX0_clear 1 none  1 22 [.ref o0] [(o0, .inr (4, [.ref h, .ref o2, .ref t1, .ref t2, .ref t3, .ref t4, .ref t5])), (t1, .inr (12, [.ref u1])), (u1, aI k 6 f0)] (is1 none [(o0, .inr (4, [.ref h, .ref o2, .ref t1, .ref t2, .ref t3, .ref t4, .ref t5])), (t1, .inr (12, [.ref u1])), (u1, aI k 6 (fun _ => 0))]) 0 0 0 := by
  refine CM.of (lv0 := [(0, .ref o0)]) (by decide +kernel) (Nat.le_of_ble_eq_true rfl) rfl ?_
  intro p e s m below meth c C hr hlk hin had
  refine g_aload_n (pc := 0) C 0 rfl rfl dX0_clear_0 ?_
  refine g_get (pc := 1) C (T := TX0) inX0 0 rfl rfl 2 (by decide) q_84 rfl rfl dX0_clear_1 ?_
  refine g_iconst (pc := 4) (v := 0) C (by decide) dX0_clear_4 ?_
  refine g_callV (pc := 5) (cells := 0) (slots := 0) (g := 0) (As := [.int 0]) (st := []) (T := TX8) (q0 := 1) C (nA := 1) rfl (c_X8_fill t1 u1 6 f0 0 (by first | assumption | decide | omega)) q_85 q_41 q_39 q_6 q_38 (by decide +kernel) rfl rfl dX0_clear_5 ⟨Nat.le_of_ble_eq_true rfl, Nat.le_of_ble_eq_true rfl⟩ [1, 2] [0] rfl (wr := [(o0, .inr (4, [.ref h, .ref o2, .ref t1, .ref t2, .ref t3, .ref t4, .ref t5]))]) rfl (by decide) (by decide) (by decide) (Nat.le_of_ble_eq_true rfl) ⟨Nat.le_of_ble_eq_true rfl, Nat.le_of_ble_eq_true rfl⟩ (fun rv w1 h1 => ?_)
  obtain ⟨rfl, rfl⟩ := h1
  refine G.aft [0, 1, 2] (ws' := [(o0, .inr (4, [.ref h, .ref o2, .ref t1, .ref t2, .ref t3, .ref t4, .ref t5])), (t1, .inr (12, [.ref u1])), (u1, aI k 6 (fun _ => 0))]) (st' := []) (cells' := 0) (slots' := 0) (g' := 0) (by decide) rfl rfl rfl rfl rfl ?_
  exact g_vret (pc := 8) C hr hlk (by first | decide | omega) (by first | decide | omega) (by first | decide | omega) dX0_clear_8 ⟨rfl, rfl⟩
end
section
theorem dX0_init_0 : decode cX0_init 0 = .ok (.aload_n 0, 1) := by decide +kernel
theorem dX0_init_1 : decode cX0_init 1 = .ok (.invokespecial 3, 3) := by decide +kernel
theorem q_86 : (Jvm.Cond.methodLink "Chipfold$Debts" (3 : Nat) ({ cls := "java/lang/Object", name := "<init>", desc := "()V" } : Jvm.MethodName)) ∈ WG := wg_1 (List.mem_of_getElem? (i := 183) (by decide +kernel)) (by decide +kernel)
theorem dX0_init_4 : decode cX0_init 4 = .ok (.aload_n 0, 1) := by decide +kernel
theorem dX0_init_5 : decode cX0_init 5 = .ok (.new 9, 3) := by decide +kernel
theorem q_87 : (Jvm.Cond.classLink "Chipfold$Debts" (9 : Nat) "Chipfold$Row") ∈ WG := wg_1 (List.mem_of_getElem? (i := 184) (by decide +kernel)) (by decide +kernel)
theorem dX0_init_8 : decode cX0_init 8 = .ok (.dup, 1) := by decide +kernel
theorem dX0_init_9 : decode cX0_init 9 = .ok (.bipush 6, 2) := by decide +kernel
theorem dX0_init_11 : decode cX0_init 11 = .ok (.invokespecial 11, 3) := by decide +kernel
theorem q_88 : (Jvm.Cond.methodLink "Chipfold$Debts" (11 : Nat) ({ cls := "Chipfold$Row", name := "<init>", desc := "(I)V" } : Jvm.MethodName)) ∈ WG := wg_1 (List.mem_of_getElem? (i := 185) (by decide +kernel)) (by decide +kernel)
theorem dX0_init_14 : decode cX0_init 14 = .ok (.putfield 14, 3) := by decide +kernel
theorem dX0_init_17 : decode cX0_init 17 = .ok (.aload_n 0, 1) := by decide +kernel
theorem dX0_init_18 : decode cX0_init 18 = .ok (.new 9, 3) := by decide +kernel
theorem dX0_init_21 : decode cX0_init 21 = .ok (.dup, 1) := by decide +kernel
theorem dX0_init_22 : decode cX0_init 22 = .ok (.bipush 6, 2) := by decide +kernel
theorem dX0_init_24 : decode cX0_init 24 = .ok (.invokespecial 11, 3) := by decide +kernel
theorem dX0_init_27 : decode cX0_init 27 = .ok (.putfield 20, 3) := by decide +kernel
theorem q_89 : (Jvm.Cond.fieldLink "Chipfold$Debts" (20 : Nat) "Chipfold$Debts" "rest" "LChipfold$Row;") ∈ WG := wg_1 (List.mem_of_getElem? (i := 191) (by decide +kernel)) (by decide +kernel)
theorem dX0_init_30 : decode cX0_init 30 = .ok (.aload_n 0, 1) := by decide +kernel
theorem dX0_init_31 : decode cX0_init 31 = .ok (.new 9, 3) := by decide +kernel
theorem dX0_init_34 : decode cX0_init 34 = .ok (.dup, 1) := by decide +kernel
theorem dX0_init_35 : decode cX0_init 35 = .ok (.bipush 6, 2) := by decide +kernel
theorem dX0_init_37 : decode cX0_init 37 = .ok (.invokespecial 11, 3) := by decide +kernel
theorem dX0_init_40 : decode cX0_init 40 = .ok (.putfield 23, 3) := by decide +kernel
theorem q_90 : (Jvm.Cond.fieldLink "Chipfold$Debts" (23 : Nat) "Chipfold$Debts" "missing" "LChipfold$Row;") ∈ WG := wg_1 (List.mem_of_getElem? (i := 192) (by decide +kernel)) (by decide +kernel)
theorem dX0_init_43 : decode cX0_init 43 = .ok (.aload_n 0, 1) := by decide +kernel
theorem dX0_init_44 : decode cX0_init 44 = .ok (.new 9, 3) := by decide +kernel
theorem dX0_init_47 : decode cX0_init 47 = .ok (.dup, 1) := by decide +kernel
theorem dX0_init_48 : decode cX0_init 48 = .ok (.bipush 6, 2) := by decide +kernel
theorem dX0_init_50 : decode cX0_init 50 = .ok (.invokespecial 11, 3) := by decide +kernel
theorem dX0_init_53 : decode cX0_init 53 = .ok (.putfield 26, 3) := by decide +kernel
theorem q_91 : (Jvm.Cond.fieldLink "Chipfold$Debts" (26 : Nat) "Chipfold$Debts" "losses" "LChipfold$Row;") ∈ WG := wg_1 (List.mem_of_getElem? (i := 193) (by decide +kernel)) (by decide +kernel)
theorem dX0_init_56 : decode cX0_init 56 = .ok (.aload_n 0, 1) := by decide +kernel
theorem dX0_init_57 : decode cX0_init 57 = .ok (.aload_n 1, 1) := by decide +kernel
theorem dX0_init_58 : decode cX0_init 58 = .ok (.putfield 29, 3) := by decide +kernel
theorem q_92 : (Jvm.Cond.fieldLink "Chipfold$Debts" (29 : Nat) "Chipfold$Debts" "graph" "LChipfold$Graph;") ∈ WG := wg_1 (List.mem_of_getElem? (i := 188) (by decide +kernel)) (by decide +kernel)
theorem dX0_init_61 : decode cX0_init 61 = .ok (.aload_n 0, 1) := by decide +kernel
theorem dX0_init_62 : decode cX0_init 62 = .ok (.aload_n 2, 1) := by decide +kernel
theorem dX0_init_63 : decode cX0_init 63 = .ok (.putfield 33, 3) := by decide +kernel
theorem q_93 : (Jvm.Cond.fieldLink "Chipfold$Debts" (33 : Nat) "Chipfold$Debts" "finder" "LChipfold$Finder;") ∈ WG := wg_1 (List.mem_of_getElem? (i := 189) (by decide +kernel)) (by decide +kernel)
theorem dX0_init_66 : decode cX0_init 66 = .ok (.aload_n 0, 1) := by decide +kernel
theorem dX0_init_67 : decode cX0_init 67 = .ok (.new 37, 3) := by decide +kernel
theorem q_94 : (Jvm.Cond.instantiable "Chipfold$Pile" (4 : Nat)) ∈ WG := wg_1 (List.mem_of_getElem? (i := 82) (by decide +kernel)) (by decide +kernel)
theorem q_95 : (Jvm.Cond.classLink "Chipfold$Debts" (37 : Nat) "Chipfold$Pile") ∈ WG := wg_1 (List.mem_of_getElem? (i := 186) (by decide +kernel)) (by decide +kernel)
theorem dX0_init_70 : decode cX0_init 70 = .ok (.dup, 1) := by decide +kernel
theorem dX0_init_71 : decode cX0_init 71 = .ok (.aload_n 1, 1) := by decide +kernel
theorem dX0_init_72 : decode cX0_init 72 = .ok (.invokespecial 39, 3) := by decide +kernel
theorem q_96 : (Jvm.Cond.code ({ cls := "Chipfold$Pile", name := "<init>", desc := "(LChipfold$Graph;)V" } : Jvm.MethodName) prog_8_method_1_code (2 : Nat) (Option.none : Option Jvm.ClassFile.FieldType)) ∈ WG := wg_1 (List.mem_of_getElem? (i := 85) rfl) rfl
theorem q_97 : (Jvm.Cond.methodLink "Chipfold$Debts" (39 : Nat) ({ cls := "Chipfold$Pile", name := "<init>", desc := "(LChipfold$Graph;)V" } : Jvm.MethodName)) ∈ WG := wg_1 (List.mem_of_getElem? (i := 187) (by decide +kernel)) (by decide +kernel)
theorem q_98 : (Jvm.Cond.instanceMethod ({ cls := "Chipfold$Pile", name := "<init>", desc := "(LChipfold$Graph;)V" } : Jvm.MethodName)) ∈ WG := wg_1 (List.mem_of_getElem? (i := 84) (by decide +kernel)) (by decide +kernel)
theorem dX0_init_75 : decode cX0_init 75 = .ok (.putfield 42, 3) := by decide +kernel
theorem q_99 : (Jvm.Cond.fieldLink "Chipfold$Debts" (42 : Nat) "Chipfold$Debts" "poorer" "LChipfold$Pile;") ∈ WG := wg_1 (List.mem_of_getElem? (i := 194) (by decide +kernel)) (by decide +kernel)
theorem dX0_init_78 : decode cX0_init 78 = .ok (.return_, 1) := by decide +kernel
theorem dX2_init_0 : decode cX2_init 0 = .ok (.aload_n 0, 1) := by decide +kernel
theorem dX2_init_1 : decode cX2_init 1 = .ok (.invokespecial 3, 3) := by decide +kernel
theorem q_100 : (Jvm.Cond.methodLink "Chipfold$Finder" (3 : Nat) ({ cls := "java/lang/Object", name := "<init>", desc := "()V" } : Jvm.MethodName)) ∈ WG := wg_1 (List.mem_of_getElem? (i := 70) (by decide +kernel)) (by decide +kernel)
theorem dX2_init_4 : decode cX2_init 4 = .ok (.aload_n 0, 1) := by decide +kernel
theorem dX2_init_5 : decode cX2_init 5 = .ok (.new 9, 3) := by decide +kernel
theorem q_101 : (Jvm.Cond.classLink "Chipfold$Finder" (9 : Nat) "Chipfold$Row") ∈ WG := wg_1 (List.mem_of_getElem? (i := 71) (by decide +kernel)) (by decide +kernel)
theorem dX2_init_8 : decode cX2_init 8 = .ok (.dup, 1) := by decide +kernel
theorem dX2_init_9 : decode cX2_init 9 = .ok (.bipush 6, 2) := by decide +kernel
theorem dX2_init_11 : decode cX2_init 11 = .ok (.invokespecial 11, 3) := by decide +kernel
theorem q_102 : (Jvm.Cond.methodLink "Chipfold$Finder" (11 : Nat) ({ cls := "Chipfold$Row", name := "<init>", desc := "(I)V" } : Jvm.MethodName)) ∈ WG := wg_1 (List.mem_of_getElem? (i := 73) (by decide +kernel)) (by decide +kernel)
theorem dX2_init_14 : decode cX2_init 14 = .ok (.putfield 14, 3) := by decide +kernel
theorem q_103 : (Jvm.Cond.fieldLink "Chipfold$Finder" (14 : Nat) "Chipfold$Finder" "zeros" "LChipfold$Row;") ∈ WG := wg_1 (List.mem_of_getElem? (i := 105) (by decide +kernel)) (by decide +kernel)
theorem inX2 : ∀ w ∈ u_ws RX2 TX2 4, w ∈ WG := by decide +kernel
theorem dX2_init_17 : decode cX2_init 17 = .ok (.aload_n 0, 1) := by decide +kernel
theorem dX2_init_18 : decode cX2_init 18 = .ok (.aload_n 1, 1) := by decide +kernel
theorem dX2_init_19 : decode cX2_init 19 = .ok (.putfield 20, 3) := by decide +kernel
theorem q_104 : (Jvm.Cond.fieldLink "Chipfold$Finder" (20 : Nat) "Chipfold$Finder" "graph" "LChipfold$Graph;") ∈ WG := wg_1 (List.mem_of_getElem? (i := 102) (by decide +kernel)) (by decide +kernel)
theorem dX2_init_22 : decode cX2_init 22 = .ok (.aload_n 0, 1) := by decide +kernel
theorem dX2_init_23 : decode cX2_init 23 = .ok (.new 24, 3) := by decide +kernel
theorem q_105 : (Jvm.Cond.classLink "Chipfold$Finder" (24 : Nat) "Chipfold$Pile") ∈ WG := wg_1 (List.mem_of_getElem? (i := 81) (by decide +kernel)) (by decide +kernel)
theorem dX2_init_26 : decode cX2_init 26 = .ok (.dup, 1) := by decide +kernel
theorem dX2_init_27 : decode cX2_init 27 = .ok (.aload_n 1, 1) := by decide +kernel
theorem dX2_init_28 : decode cX2_init 28 = .ok (.invokespecial 26, 3) := by decide +kernel
theorem q_106 : (Jvm.Cond.methodLink "Chipfold$Finder" (26 : Nat) ({ cls := "Chipfold$Pile", name := "<init>", desc := "(LChipfold$Graph;)V" } : Jvm.MethodName)) ∈ WG := wg_1 (List.mem_of_getElem? (i := 83) (by decide +kernel)) (by decide +kernel)
theorem dX2_init_31 : decode cX2_init 31 = .ok (.putfield 29, 3) := by decide +kernel
theorem q_107 : (Jvm.Cond.fieldLink "Chipfold$Finder" (29 : Nat) "Chipfold$Finder" "found" "LChipfold$Pile;") ∈ WG := wg_1 (List.mem_of_getElem? (i := 103) (by decide +kernel)) (by decide +kernel)
theorem dX2_init_34 : decode cX2_init 34 = .ok (.aload_n 0, 1) := by decide +kernel
theorem dX2_init_35 : decode cX2_init 35 = .ok (.new 24, 3) := by decide +kernel
theorem dX2_init_38 : decode cX2_init 38 = .ok (.dup, 1) := by decide +kernel
theorem dX2_init_39 : decode cX2_init 39 = .ok (.aload_n 1, 1) := by decide +kernel
theorem dX2_init_40 : decode cX2_init 40 = .ok (.invokespecial 26, 3) := by decide +kernel
theorem dX2_init_43 : decode cX2_init 43 = .ok (.putfield 33, 3) := by decide +kernel
theorem q_108 : (Jvm.Cond.fieldLink "Chipfold$Finder" (33 : Nat) "Chipfold$Finder" "degreesSettled" "LChipfold$Pile;") ∈ WG := wg_1 (List.mem_of_getElem? (i := 104) (by decide +kernel)) (by decide +kernel)
theorem dX2_init_46 : decode cX2_init 46 = .ok (.return_, 1) := by decide +kernel
theorem dX5_init_0 : decode cX5_init 0 = .ok (.aload_n 0, 1) := by decide +kernel
theorem dX5_init_1 : decode cX5_init 1 = .ok (.invokespecial 3, 3) := by decide +kernel
theorem q_109 : (Jvm.Cond.methodLink "Chipfold$Matrix" (3 : Nat) ({ cls := "java/lang/Object", name := "<init>", desc := "()V" } : Jvm.MethodName)) ∈ WG := wg_1 (List.mem_of_getElem? (i := 130) (by decide +kernel)) (by decide +kernel)
theorem dX5_init_4 : decode cX5_init 4 = .ok (.aload_n 0, 1) := by decide +kernel
theorem dX5_init_5 : decode cX5_init 5 = .ok (.bipush 25, 2) := by decide +kernel
theorem dX5_init_7 : decode cX5_init 7 = .ok (.newarray .long, 2) := by decide +kernel
theorem q_110 : (Jvm.Cond.arrayClass Jvm.ClassFile.FieldType.long) ∈ WG := wg_1 (List.mem_of_getElem? (i := 135) (by decide +kernel)) (by decide +kernel)
theorem dX5_init_9 : decode cX5_init 9 = .ok (.putfield 11, 3) := by decide +kernel
theorem q_111 : (Jvm.Cond.fieldLink "Chipfold$Matrix" (11 : Nat) "Chipfold$Matrix" "cells" "[J") ∈ WG := wg_1 (List.mem_of_getElem? (i := 131) (by decide +kernel)) (by decide +kernel)
theorem inX5 : ∀ w ∈ u_ws RX5 TX5 1, w ∈ WG := by decide +kernel
theorem dX5_init_12 : decode cX5_init 12 = .ok (.return_, 1) := by decide +kernel
theorem dX4_init_0 : decode cX4_init 0 = .ok (.aload_n 0, 1) := by decide +kernel
theorem dX4_init_1 : decode cX4_init 1 = .ok (.invokespecial 3, 3) := by decide +kernel
theorem q_112 : (Jvm.Cond.methodLink "Chipfold$Group" (3 : Nat) ({ cls := "java/lang/Object", name := "<init>", desc := "()V" } : Jvm.MethodName)) ∈ WG := wg_1 (List.mem_of_getElem? (i := 124) (by decide +kernel)) (by decide +kernel)
theorem dX4_init_4 : decode cX4_init 4 = .ok (.aload_n 0, 1) := by decide +kernel
theorem dX4_init_5 : decode cX4_init 5 = .ok (.new 9, 3) := by decide +kernel
theorem q_113 : (Jvm.Cond.instantiable "Chipfold$Matrix" (1 : Nat)) ∈ WG := wg_1 (List.mem_of_getElem? (i := 126) (by decide +kernel)) (by decide +kernel)
theorem q_114 : (Jvm.Cond.classLink "Chipfold$Group" (9 : Nat) "Chipfold$Matrix") ∈ WG := wg_1 (List.mem_of_getElem? (i := 125) (by decide +kernel)) (by decide +kernel)
theorem q_115 : (Jvm.Cond.initialized "Chipfold$Matrix") ∈ WG := wg_1 (List.mem_of_getElem? (i := 7) (by decide +kernel)) (by decide +kernel)
theorem dX4_init_8 : decode cX4_init 8 = .ok (.dup, 1) := by decide +kernel
theorem dX4_init_9 : decode cX4_init 9 = .ok (.invokespecial 11, 3) := by decide +kernel
theorem q_116 : (Jvm.Cond.code ({ cls := "Chipfold$Matrix", name := "<init>", desc := "()V" } : Jvm.MethodName) prog_7_method_1_code (1 : Nat) (Option.none : Option Jvm.ClassFile.FieldType)) ∈ WG := wg_1 (List.mem_of_getElem? (i := 129) rfl) rfl
theorem q_117 : (Jvm.Cond.instanceMethod ({ cls := "Chipfold$Matrix", name := "<init>", desc := "()V" } : Jvm.MethodName)) ∈ WG := wg_1 (List.mem_of_getElem? (i := 128) (by decide +kernel)) (by decide +kernel)
theorem dX4_init_12 : decode cX4_init 12 = .ok (.putfield 12, 3) := by decide +kernel
theorem q_118 : (Jvm.Cond.fieldLink "Chipfold$Group" (12 : Nat) "Chipfold$Group" "matrix" "LChipfold$Matrix;") ∈ WG := wg_1 (List.mem_of_getElem? (i := 139) (by decide +kernel)) (by decide +kernel)
theorem inX4 : ∀ w ∈ u_ws RX4 TX4 3, w ∈ WG := by decide +kernel
theorem dX4_init_15 : decode cX4_init 15 = .ok (.aload_n 0, 1) := by decide +kernel
theorem dX4_init_16 : decode cX4_init 16 = .ok (.new 18, 3) := by decide +kernel
theorem q_119 : (Jvm.Cond.classLink "Chipfold$Group" (18 : Nat) "Chipfold$Row") ∈ WG := wg_1 (List.mem_of_getElem? (i := 136) (by decide +kernel)) (by decide +kernel)
theorem dX4_init_19 : decode cX4_init 19 = .ok (.dup, 1) := by decide +kernel
theorem dX4_init_20 : decode cX4_init 20 = .ok (.bipush 6, 2) := by decide +kernel
theorem dX4_init_22 : decode cX4_init 22 = .ok (.invokespecial 20, 3) := by decide +kernel
theorem q_120 : (Jvm.Cond.methodLink "Chipfold$Group" (20 : Nat) ({ cls := "Chipfold$Row", name := "<init>", desc := "(I)V" } : Jvm.MethodName)) ∈ WG := wg_1 (List.mem_of_getElem? (i := 137) (by decide +kernel)) (by decide +kernel)
theorem dX4_init_25 : decode cX4_init 25 = .ok (.putfield 23, 3) := by decide +kernel
theorem q_121 : (Jvm.Cond.fieldLink "Chipfold$Group" (23 : Nat) "Chipfold$Group" "found" "LChipfold$Row;") ∈ WG := wg_1 (List.mem_of_getElem? (i := 140) (by decide +kernel)) (by decide +kernel)
theorem dX4_init_28 : decode cX4_init 28 = .ok (.aload_n 0, 1) := by decide +kernel
theorem dX4_init_29 : decode cX4_init 29 = .ok (.aload_n 1, 1) := by decide +kernel
theorem dX4_init_30 : decode cX4_init 30 = .ok (.putfield 27, 3) := by decide +kernel
theorem q_122 : (Jvm.Cond.fieldLink "Chipfold$Group" (27 : Nat) "Chipfold$Group" "graph" "LChipfold$Graph;") ∈ WG := wg_1 (List.mem_of_getElem? (i := 138) (by decide +kernel)) (by decide +kernel)
theorem dX4_init_33 : decode cX4_init 33 = .ok (.return_, 1) := by decide +kernel
theorem dX9_init_0 : decode cX9_init 0 = .ok (.aload_n 0, 1) := by decide +kernel
theorem dX9_init_1 : decode cX9_init 1 = .ok (.invokespecial 3, 3) := by decide +kernel
theorem q_123 : (Jvm.Cond.methodLink "Chipfold$TreeCount" (3 : Nat) ({ cls := "java/lang/Object", name := "<init>", desc := "()V" } : Jvm.MethodName)) ∈ WG := wg_1 (List.mem_of_getElem? (i := 153) (by decide +kernel)) (by decide +kernel)
theorem dX9_init_4 : decode cX9_init 4 = .ok (.aload_n 0, 1) := by decide +kernel
theorem dX9_init_5 : decode cX9_init 5 = .ok (.new 9, 3) := by decide +kernel
theorem q_124 : (Jvm.Cond.classLink "Chipfold$TreeCount" (9 : Nat) "Chipfold$Row") ∈ WG := wg_1 (List.mem_of_getElem? (i := 154) (by decide +kernel)) (by decide +kernel)
theorem dX9_init_8 : decode cX9_init 8 = .ok (.dup, 1) := by decide +kernel
theorem dX9_init_9 : decode cX9_init 9 = .ok (.sipush 252, 3) := by decide +kernel
theorem dX9_init_12 : decode cX9_init 12 = .ok (.invokespecial 11, 3) := by decide +kernel
theorem q_125 : (Jvm.Cond.methodLink "Chipfold$TreeCount" (11 : Nat) ({ cls := "Chipfold$Row", name := "<init>", desc := "(I)V" } : Jvm.MethodName)) ∈ WG := wg_1 (List.mem_of_getElem? (i := 155) (by decide +kernel)) (by decide +kernel)
theorem dX9_init_15 : decode cX9_init 15 = .ok (.putfield 14, 3) := by decide +kernel
theorem q_126 : (Jvm.Cond.fieldLink "Chipfold$TreeCount" (14 : Nat) "Chipfold$TreeCount" "squares" "LChipfold$Row;") ∈ WG := wg_1 (List.mem_of_getElem? (i := 156) (by decide +kernel)) (by decide +kernel)
theorem inX9 : ∀ w ∈ u_ws RX9 TX9 1, w ∈ WG := by decide +kernel
theorem dX9_init_18 : decode cX9_init 18 = .ok (.return_, 1) := by decide +kernel
theorem dX1_init_0 : decode cX1_init 0 = .ok (.aload_n 0, 1) := by decide +kernel
theorem dX1_init_1 : decode cX1_init 1 = .ok (.invokespecial 3, 3) := by decide +kernel
theorem q_127 : (Jvm.Cond.methodLink "Chipfold$Drawing" (3 : Nat) ({ cls := "java/lang/Object", name := "<init>", desc := "()V" } : Jvm.MethodName)) ∈ WG := wg_1 (List.mem_of_getElem? (i := 215) (by decide +kernel)) (by decide +kernel)
theorem dX1_init_4 : decode cX1_init 4 = .ok (.aload_n 0, 1) := by decide +kernel
theorem dX1_init_5 : decode cX1_init 5 = .ok (.new 9, 3) := by decide +kernel
theorem q_128 : (Jvm.Cond.classLink "Chipfold$Drawing" (9 : Nat) "Chipfold$Row") ∈ WG := wg_1 (List.mem_of_getElem? (i := 216) (by decide +kernel)) (by decide +kernel)
theorem dX1_init_8 : decode cX1_init 8 = .ok (.dup, 1) := by decide +kernel
theorem dX1_init_9 : decode cX1_init 9 = .ok (.bipush 81, 2) := by decide +kernel
theorem dX1_init_11 : decode cX1_init 11 = .ok (.invokespecial 11, 3) := by decide +kernel
theorem q_129 : (Jvm.Cond.methodLink "Chipfold$Drawing" (11 : Nat) ({ cls := "Chipfold$Row", name := "<init>", desc := "(I)V" } : Jvm.MethodName)) ∈ WG := wg_1 (List.mem_of_getElem? (i := 217) (by decide +kernel)) (by decide +kernel)
theorem dX1_init_14 : decode cX1_init 14 = .ok (.putfield 14, 3) := by decide +kernel
theorem q_130 : (Jvm.Cond.fieldLink "Chipfold$Drawing" (14 : Nat) "Chipfold$Drawing" "cells" "LChipfold$Row;") ∈ WG := wg_1 (List.mem_of_getElem? (i := 218) (by decide +kernel)) (by decide +kernel)
theorem inX1 : ∀ w ∈ u_ws RX1 TX1 2, w ∈ WG := by decide +kernel
theorem dX1_init_17 : decode cX1_init 17 = .ok (.aload_n 0, 1) := by decide +kernel
theorem dX1_init_18 : decode cX1_init 18 = .ok (.iconst 0, 1) := by decide +kernel
theorem dX1_init_19 : decode cX1_init 19 = .ok (.putfield 20, 3) := by decide +kernel
theorem q_131 : (Jvm.Cond.fieldLink "Chipfold$Drawing" (20 : Nat) "Chipfold$Drawing" "width" "I") ∈ WG := wg_1 (List.mem_of_getElem? (i := 219) (by decide +kernel)) (by decide +kernel)
theorem dX1_init_22 : decode cX1_init 22 = .ok (.return_, 1) := by decide +kernel
theorem dX10_init_0 : decode cX10_init 0 = .ok (.aload_n 0, 1) := by decide +kernel
theorem dX10_init_1 : decode cX10_init 1 = .ok (.invokespecial 1, 3) := by decide +kernel
theorem q_132 : (Jvm.Cond.methodLink "Chipfold" (1 : Nat) ({ cls := "java/lang/Object", name := "<init>", desc := "()V" } : Jvm.MethodName)) ∈ WG := wg_1 (List.mem_of_getElem? (i := 42) (by decide +kernel)) (by decide +kernel)
theorem dX10_init_4 : decode cX10_init 4 = .ok (.new 7, 3) := by decide +kernel
theorem q_133 : (Jvm.Cond.instantiable "Chipfold$Graph" (4 : Nat)) ∈ WG := wg_1 (List.mem_of_getElem? (i := 46) (by decide +kernel)) (by decide +kernel)
theorem q_134 : (Jvm.Cond.classLink "Chipfold" (7 : Nat) "Chipfold$Graph") ∈ WG := wg_1 (List.mem_of_getElem? (i := 45) (by decide +kernel)) (by decide +kernel)
theorem dX10_init_7 : decode cX10_init 7 = .ok (.dup, 1) := by decide +kernel
theorem dX10_init_8 : decode cX10_init 8 = .ok (.invokespecial 9, 3) := by decide +kernel
theorem q_135 : (Jvm.Cond.code ({ cls := "Chipfold$Graph", name := "<init>", desc := "()V" } : Jvm.MethodName) prog_5_method_1_code (1 : Nat) (Option.none : Option Jvm.ClassFile.FieldType)) ∈ WG := wg_1 (List.mem_of_getElem? (i := 49) rfl) rfl
theorem q_136 : (Jvm.Cond.instanceMethod ({ cls := "Chipfold$Graph", name := "<init>", desc := "()V" } : Jvm.MethodName)) ∈ WG := wg_1 (List.mem_of_getElem? (i := 48) (by decide +kernel)) (by decide +kernel)
theorem dX10_init_11 : decode cX10_init 11 = .ok (.astore_n 1, 1) := by decide +kernel
theorem dX10_init_12 : decode cX10_init 12 = .ok (.new 10, 3) := by decide +kernel
theorem q_137 : (Jvm.Cond.instantiable "Chipfold$Finder" (4 : Nat)) ∈ WG := wg_1 (List.mem_of_getElem? (i := 66) (by decide +kernel)) (by decide +kernel)
theorem q_138 : (Jvm.Cond.classLink "Chipfold" (10 : Nat) "Chipfold$Finder") ∈ WG := wg_1 (List.mem_of_getElem? (i := 65) (by decide +kernel)) (by decide +kernel)
theorem q_139 : (Jvm.Cond.initialized "Chipfold$Finder") ∈ WG := wg_1 (List.mem_of_getElem? (i := 3) (by decide +kernel)) (by decide +kernel)
theorem dX10_init_15 : decode cX10_init 15 = .ok (.dup, 1) := by decide +kernel
theorem dX10_init_16 : decode cX10_init 16 = .ok (.aload_n 1, 1) := by decide +kernel
theorem dX10_init_17 : decode cX10_init 17 = .ok (.invokespecial 12, 3) := by decide +kernel
theorem q_140 : (Jvm.Cond.code ({ cls := "Chipfold$Finder", name := "<init>", desc := "(LChipfold$Graph;)V" } : Jvm.MethodName) prog_4_method_1_code (2 : Nat) (Option.none : Option Jvm.ClassFile.FieldType)) ∈ WG := wg_1 (List.mem_of_getElem? (i := 69) rfl) rfl
theorem q_141 : (Jvm.Cond.methodLink "Chipfold" (12 : Nat) ({ cls := "Chipfold$Finder", name := "<init>", desc := "(LChipfold$Graph;)V" } : Jvm.MethodName)) ∈ WG := wg_1 (List.mem_of_getElem? (i := 67) (by decide +kernel)) (by decide +kernel)
theorem q_142 : (Jvm.Cond.instanceMethod ({ cls := "Chipfold$Finder", name := "<init>", desc := "(LChipfold$Graph;)V" } : Jvm.MethodName)) ∈ WG := wg_1 (List.mem_of_getElem? (i := 68) (by decide +kernel)) (by decide +kernel)
theorem dX10_init_20 : decode cX10_init 20 = .ok (.astore_n 2, 1) := by decide +kernel
theorem dX10_init_21 : decode cX10_init 21 = .ok (.aload_n 0, 1) := by decide +kernel
theorem dX10_init_22 : decode cX10_init 22 = .ok (.aload_n 1, 1) := by decide +kernel
theorem dX10_init_23 : decode cX10_init 23 = .ok (.putfield 15, 3) := by decide +kernel
theorem q_143 : (Jvm.Cond.fieldLink "Chipfold" (15 : Nat) "Chipfold" "graph" "LChipfold$Graph;") ∈ WG := wg_1 (List.mem_of_getElem? (i := 225) (by decide +kernel)) (by decide +kernel)
theorem inX10 : ∀ w ∈ u_ws RX10 TX10 11, w ∈ WG := by decide +kernel
theorem dX10_init_26 : decode cX10_init 26 = .ok (.aload_n 0, 1) := by decide +kernel
theorem dX10_init_27 : decode cX10_init 27 = .ok (.aload_n 2, 1) := by decide +kernel
theorem dX10_init_28 : decode cX10_init 28 = .ok (.putfield 21, 3) := by decide +kernel
theorem q_144 : (Jvm.Cond.fieldLink "Chipfold" (21 : Nat) "Chipfold" "finder" "LChipfold$Finder;") ∈ WG := wg_1 (List.mem_of_getElem? (i := 230) (by decide +kernel)) (by decide +kernel)
theorem dX10_init_31 : decode cX10_init 31 = .ok (.aload_n 0, 1) := by decide +kernel
theorem dX10_init_32 : decode cX10_init 32 = .ok (.new 25, 3) := by decide +kernel
theorem q_145 : (Jvm.Cond.classLink "Chipfold" (25 : Nat) "Chipfold$Pile") ∈ WG := wg_1 (List.mem_of_getElem? (i := 115) (by decide +kernel)) (by decide +kernel)
theorem dX10_init_35 : decode cX10_init 35 = .ok (.dup, 1) := by decide +kernel
theorem dX10_init_36 : decode cX10_init 36 = .ok (.aload_n 1, 1) := by decide +kernel
theorem dX10_init_37 : decode cX10_init 37 = .ok (.invokespecial 27, 3) := by decide +kernel
theorem q_146 : (Jvm.Cond.methodLink "Chipfold" (27 : Nat) ({ cls := "Chipfold$Pile", name := "<init>", desc := "(LChipfold$Graph;)V" } : Jvm.MethodName)) ∈ WG := wg_1 (List.mem_of_getElem? (i := 116) (by decide +kernel)) (by decide +kernel)
theorem dX10_init_40 : decode cX10_init 40 = .ok (.putfield 28, 3) := by decide +kernel
theorem q_147 : (Jvm.Cond.fieldLink "Chipfold" (28 : Nat) "Chipfold" "pile" "LChipfold$Pile;") ∈ WG := wg_1 (List.mem_of_getElem? (i := 226) (by decide +kernel)) (by decide +kernel)
theorem dX10_init_43 : decode cX10_init 43 = .ok (.aload_n 0, 1) := by decide +kernel
theorem dX10_init_44 : decode cX10_init 44 = .ok (.new 25, 3) := by decide +kernel
theorem dX10_init_47 : decode cX10_init 47 = .ok (.dup, 1) := by decide +kernel
theorem dX10_init_48 : decode cX10_init 48 = .ok (.aload_n 1, 1) := by decide +kernel
theorem dX10_init_49 : decode cX10_init 49 = .ok (.invokespecial 27, 3) := by decide +kernel
theorem dX10_init_52 : decode cX10_init 52 = .ok (.putfield 32, 3) := by decide +kernel
theorem q_148 : (Jvm.Cond.fieldLink "Chipfold" (32 : Nat) "Chipfold" "trial" "LChipfold$Pile;") ∈ WG := wg_1 (List.mem_of_getElem? (i := 227) (by decide +kernel)) (by decide +kernel)
theorem dX10_init_55 : decode cX10_init 55 = .ok (.aload_n 0, 1) := by decide +kernel
theorem dX10_init_56 : decode cX10_init 56 = .ok (.new 25, 3) := by decide +kernel
theorem dX10_init_59 : decode cX10_init 59 = .ok (.dup, 1) := by decide +kernel
theorem dX10_init_60 : decode cX10_init 60 = .ok (.aload_n 1, 1) := by decide +kernel
theorem dX10_init_61 : decode cX10_init 61 = .ok (.invokespecial 27, 3) := by decide +kernel
theorem dX10_init_64 : decode cX10_init 64 = .ok (.putfield 35, 3) := by decide +kernel
theorem q_149 : (Jvm.Cond.fieldLink "Chipfold" (35 : Nat) "Chipfold" "secondTrial" "LChipfold$Pile;") ∈ WG := wg_1 (List.mem_of_getElem? (i := 228) (by decide +kernel)) (by decide +kernel)
theorem dX10_init_67 : decode cX10_init 67 = .ok (.aload_n 0, 1) := by decide +kernel
theorem dX10_init_68 : decode cX10_init 68 = .ok (.new 38, 3) := by decide +kernel
theorem q_150 : (Jvm.Cond.classLink "Chipfold" (38 : Nat) "Chipfold$Row") ∈ WG := wg_1 (List.mem_of_getElem? (i := 117) (by decide +kernel)) (by decide +kernel)
theorem dX10_init_71 : decode cX10_init 71 = .ok (.dup, 1) := by decide +kernel
theorem dX10_init_72 : decode cX10_init 72 = .ok (.bipush 6, 2) := by decide +kernel
theorem dX10_init_74 : decode cX10_init 74 = .ok (.invokespecial 40, 3) := by decide +kernel
theorem q_151 : (Jvm.Cond.methodLink "Chipfold" (40 : Nat) ({ cls := "Chipfold$Row", name := "<init>", desc := "(I)V" } : Jvm.MethodName)) ∈ WG := wg_1 (List.mem_of_getElem? (i := 118) (by decide +kernel)) (by decide +kernel)
theorem dX10_init_77 : decode cX10_init 77 = .ok (.putfield 43, 3) := by decide +kernel
theorem q_152 : (Jvm.Cond.fieldLink "Chipfold" (43 : Nat) "Chipfold" "fire" "LChipfold$Row;") ∈ WG := wg_1 (List.mem_of_getElem? (i := 229) (by decide +kernel)) (by decide +kernel)
theorem dX10_init_80 : decode cX10_init 80 = .ok (.aload_n 0, 1) := by decide +kernel
theorem dX10_init_81 : decode cX10_init 81 = .ok (.new 47, 3) := by decide +kernel
theorem q_153 : (Jvm.Cond.instantiable "Chipfold$Group" (3 : Nat)) ∈ WG := wg_1 (List.mem_of_getElem? (i := 120) (by decide +kernel)) (by decide +kernel)
theorem q_154 : (Jvm.Cond.classLink "Chipfold" (47 : Nat) "Chipfold$Group") ∈ WG := wg_1 (List.mem_of_getElem? (i := 119) (by decide +kernel)) (by decide +kernel)
theorem q_155 : (Jvm.Cond.initialized "Chipfold$Group") ∈ WG := wg_1 (List.mem_of_getElem? (i := 6) (by decide +kernel)) (by decide +kernel)
theorem dX10_init_84 : decode cX10_init 84 = .ok (.dup, 1) := by decide +kernel
theorem dX10_init_85 : decode cX10_init 85 = .ok (.aload_n 1, 1) := by decide +kernel
theorem dX10_init_86 : decode cX10_init 86 = .ok (.invokespecial 49, 3) := by decide +kernel
theorem q_156 : (Jvm.Cond.code ({ cls := "Chipfold$Group", name := "<init>", desc := "(LChipfold$Graph;)V" } : Jvm.MethodName) prog_6_method_1_code (2 : Nat) (Option.none : Option Jvm.ClassFile.FieldType)) ∈ WG := wg_1 (List.mem_of_getElem? (i := 123) rfl) rfl
theorem q_157 : (Jvm.Cond.methodLink "Chipfold" (49 : Nat) ({ cls := "Chipfold$Group", name := "<init>", desc := "(LChipfold$Graph;)V" } : Jvm.MethodName)) ∈ WG := wg_1 (List.mem_of_getElem? (i := 121) (by decide +kernel)) (by decide +kernel)
theorem q_158 : (Jvm.Cond.instanceMethod ({ cls := "Chipfold$Group", name := "<init>", desc := "(LChipfold$Graph;)V" } : Jvm.MethodName)) ∈ WG := wg_1 (List.mem_of_getElem? (i := 122) (by decide +kernel)) (by decide +kernel)
theorem dX10_init_89 : decode cX10_init 89 = .ok (.putfield 50, 3) := by decide +kernel
theorem q_159 : (Jvm.Cond.fieldLink "Chipfold" (50 : Nat) "Chipfold" "group" "LChipfold$Group;") ∈ WG := wg_1 (List.mem_of_getElem? (i := 231) (by decide +kernel)) (by decide +kernel)
theorem dX10_init_92 : decode cX10_init 92 = .ok (.aload_n 0, 1) := by decide +kernel
theorem dX10_init_93 : decode cX10_init 93 = .ok (.new 54, 3) := by decide +kernel
theorem q_160 : (Jvm.Cond.instantiable "Chipfold$TreeCount" (1 : Nat)) ∈ WG := wg_1 (List.mem_of_getElem? (i := 149) (by decide +kernel)) (by decide +kernel)
theorem q_161 : (Jvm.Cond.classLink "Chipfold" (54 : Nat) "Chipfold$TreeCount") ∈ WG := wg_1 (List.mem_of_getElem? (i := 148) (by decide +kernel)) (by decide +kernel)
theorem q_162 : (Jvm.Cond.initialized "Chipfold$TreeCount") ∈ WG := wg_1 (List.mem_of_getElem? (i := 8) (by decide +kernel)) (by decide +kernel)
theorem dX10_init_96 : decode cX10_init 96 = .ok (.dup, 1) := by decide +kernel
theorem dX10_init_97 : decode cX10_init 97 = .ok (.invokespecial 56, 3) := by decide +kernel
theorem q_163 : (Jvm.Cond.code ({ cls := "Chipfold$TreeCount", name := "<init>", desc := "()V" } : Jvm.MethodName) prog_11_method_1_code (1 : Nat) (Option.none : Option Jvm.ClassFile.FieldType)) ∈ WG := wg_1 (List.mem_of_getElem? (i := 152) rfl) rfl
theorem q_164 : (Jvm.Cond.instanceMethod ({ cls := "Chipfold$TreeCount", name := "<init>", desc := "()V" } : Jvm.MethodName)) ∈ WG := wg_1 (List.mem_of_getElem? (i := 151) (by decide +kernel)) (by decide +kernel)
theorem dX10_init_100 : decode cX10_init 100 = .ok (.putfield 57, 3) := by decide +kernel
theorem q_165 : (Jvm.Cond.fieldLink "Chipfold" (57 : Nat) "Chipfold" "treeCount" "LChipfold$TreeCount;") ∈ WG := wg_1 (List.mem_of_getElem? (i := 232) (by decide +kernel)) (by decide +kernel)
theorem dX10_init_103 : decode cX10_init 103 = .ok (.aload_n 0, 1) := by decide +kernel
theorem dX10_init_104 : decode cX10_init 104 = .ok (.new 61, 3) := by decide +kernel
theorem q_166 : (Jvm.Cond.instantiable "Chipfold$Rotors" (3 : Nat)) ∈ WG := wg_1 (List.mem_of_getElem? (i := 161) (by decide +kernel)) (by decide +kernel)
theorem q_167 : (Jvm.Cond.classLink "Chipfold" (61 : Nat) "Chipfold$Rotors") ∈ WG := wg_1 (List.mem_of_getElem? (i := 160) (by decide +kernel)) (by decide +kernel)
theorem q_168 : (Jvm.Cond.initialized "Chipfold$Rotors") ∈ WG := wg_1 (List.mem_of_getElem? (i := 9) (by decide +kernel)) (by decide +kernel)
theorem dX10_init_107 : decode cX10_init 107 = .ok (.dup, 1) := by decide +kernel
theorem dX10_init_108 : decode cX10_init 108 = .ok (.aload_n 1, 1) := by decide +kernel
theorem dX10_init_109 : decode cX10_init 109 = .ok (.invokespecial 63, 3) := by decide +kernel
theorem q_169 : (Jvm.Cond.code ({ cls := "Chipfold$Rotors", name := "<init>", desc := "(LChipfold$Graph;)V" } : Jvm.MethodName) prog_9_method_1_code (2 : Nat) (Option.none : Option Jvm.ClassFile.FieldType)) ∈ WG := wg_1 (List.mem_of_getElem? (i := 164) rfl) rfl
theorem q_170 : (Jvm.Cond.methodLink "Chipfold" (63 : Nat) ({ cls := "Chipfold$Rotors", name := "<init>", desc := "(LChipfold$Graph;)V" } : Jvm.MethodName)) ∈ WG := wg_1 (List.mem_of_getElem? (i := 162) (by decide +kernel)) (by decide +kernel)
theorem q_171 : (Jvm.Cond.instanceMethod ({ cls := "Chipfold$Rotors", name := "<init>", desc := "(LChipfold$Graph;)V" } : Jvm.MethodName)) ∈ WG := wg_1 (List.mem_of_getElem? (i := 163) (by decide +kernel)) (by decide +kernel)
theorem dX10_init_112 : decode cX10_init 112 = .ok (.putfield 64, 3) := by decide +kernel
theorem q_172 : (Jvm.Cond.fieldLink "Chipfold" (64 : Nat) "Chipfold" "rotors" "LChipfold$Rotors;") ∈ WG := wg_1 (List.mem_of_getElem? (i := 233) (by decide +kernel)) (by decide +kernel)
theorem dX10_init_115 : decode cX10_init 115 = .ok (.aload_n 0, 1) := by decide +kernel
theorem dX10_init_116 : decode cX10_init 116 = .ok (.new 68, 3) := by decide +kernel
theorem q_173 : (Jvm.Cond.instantiable "Chipfold$Debts" (7 : Nat)) ∈ WG := wg_1 (List.mem_of_getElem? (i := 179) (by decide +kernel)) (by decide +kernel)
theorem q_174 : (Jvm.Cond.classLink "Chipfold" (68 : Nat) "Chipfold$Debts") ∈ WG := wg_1 (List.mem_of_getElem? (i := 178) (by decide +kernel)) (by decide +kernel)
theorem q_175 : (Jvm.Cond.initialized "Chipfold$Debts") ∈ WG := wg_1 (List.mem_of_getElem? (i := 10) (by decide +kernel)) (by decide +kernel)
theorem dX10_init_119 : decode cX10_init 119 = .ok (.dup, 1) := by decide +kernel
theorem dX10_init_120 : decode cX10_init 120 = .ok (.aload_n 1, 1) := by decide +kernel
theorem dX10_init_121 : decode cX10_init 121 = .ok (.aload_n 2, 1) := by decide +kernel
theorem dX10_init_122 : decode cX10_init 122 = .ok (.invokespecial 70, 3) := by decide +kernel
theorem q_176 : (Jvm.Cond.code ({ cls := "Chipfold$Debts", name := "<init>", desc := "(LChipfold$Graph;LChipfold$Finder;)V" } : Jvm.MethodName) prog_2_method_1_code (3 : Nat) (Option.none : Option Jvm.ClassFile.FieldType)) ∈ WG := wg_1 (List.mem_of_getElem? (i := 182) rfl) rfl
theorem q_177 : (Jvm.Cond.methodLink "Chipfold" (70 : Nat) ({ cls := "Chipfold$Debts", name := "<init>", desc := "(LChipfold$Graph;LChipfold$Finder;)V" } : Jvm.MethodName)) ∈ WG := wg_1 (List.mem_of_getElem? (i := 180) (by decide +kernel)) (by decide +kernel)
theorem q_178 : (Jvm.Cond.instanceMethod ({ cls := "Chipfold$Debts", name := "<init>", desc := "(LChipfold$Graph;LChipfold$Finder;)V" } : Jvm.MethodName)) ∈ WG := wg_1 (List.mem_of_getElem? (i := 181) (by decide +kernel)) (by decide +kernel)
theorem dX10_init_125 : decode cX10_init 125 = .ok (.putfield 73, 3) := by decide +kernel
theorem q_179 : (Jvm.Cond.fieldLink "Chipfold" (73 : Nat) "Chipfold" "debts" "LChipfold$Debts;") ∈ WG := wg_1 (List.mem_of_getElem? (i := 234) (by decide +kernel)) (by decide +kernel)
theorem dX10_init_128 : decode cX10_init 128 = .ok (.aload_n 0, 1) := by decide +kernel
theorem dX10_init_129 : decode cX10_init 129 = .ok (.new 77, 3) := by decide +kernel
theorem q_180 : (Jvm.Cond.instantiable "Chipfold$Drawing" (2 : Nat)) ∈ WG := wg_1 (List.mem_of_getElem? (i := 211) (by decide +kernel)) (by decide +kernel)
theorem q_181 : (Jvm.Cond.classLink "Chipfold" (77 : Nat) "Chipfold$Drawing") ∈ WG := wg_1 (List.mem_of_getElem? (i := 210) (by decide +kernel)) (by decide +kernel)
theorem q_182 : (Jvm.Cond.initialized "Chipfold$Drawing") ∈ WG := wg_1 (List.mem_of_getElem? (i := 11) (by decide +kernel)) (by decide +kernel)
theorem dX10_init_132 : decode cX10_init 132 = .ok (.dup, 1) := by decide +kernel
theorem dX10_init_133 : decode cX10_init 133 = .ok (.invokespecial 79, 3) := by decide +kernel
theorem q_183 : (Jvm.Cond.code ({ cls := "Chipfold$Drawing", name := "<init>", desc := "()V" } : Jvm.MethodName) prog_3_method_1_code (1 : Nat) (Option.none : Option Jvm.ClassFile.FieldType)) ∈ WG := wg_1 (List.mem_of_getElem? (i := 214) rfl) rfl
theorem q_184 : (Jvm.Cond.instanceMethod ({ cls := "Chipfold$Drawing", name := "<init>", desc := "()V" } : Jvm.MethodName)) ∈ WG := wg_1 (List.mem_of_getElem? (i := 213) (by decide +kernel)) (by decide +kernel)
theorem dX10_init_136 : decode cX10_init 136 = .ok (.putfield 80, 3) := by decide +kernel
theorem q_185 : (Jvm.Cond.fieldLink "Chipfold" (80 : Nat) "Chipfold" "drawing" "LChipfold$Drawing;") ∈ WG := wg_1 (List.mem_of_getElem? (i := 235) (by decide +kernel)) (by decide +kernel)
theorem dX10_init_139 : decode cX10_init 139 = .ok (.return_, 1) := by decide +kernel
set_option maxRecDepth 100000 in
set_option maxHeartbeats 400000 in
theorem c_X0_init {l : Launch} {D : va_G} {k : Nat → ClassId} (o0 : Nat) (h : Nat) (o2 : Nat)  : CM l D k yX0_init cX0_init 3 none  3 54 [.ref o0, .ref h, .ref o2] [(o0, .inr (4, [.null, .null, .null, .null, .null, .null, .null]))] (fun rv9 w9 => rv9 = none ∧ ∃ (t1 : Nat) (t2 : Nat) (t3 : Nat) (t4 : Nat) (t5 : Nat) (u1 : Nat) (u2 : Nat) (u3 : Nat) (u4 : Nat) (r1 : Nat) (a1 : Nat) (r2 : Nat) (a2 : Nat), w9 = [(o0, .inr (4, [.ref h, .ref o2, .ref t1, .ref t2, .ref t3, .ref t4, .ref t5])), (t1, .inr (12, [.ref u1])), (u1, aI k 6 (fun _ => 0)), (t2, .inr (12, [.ref u2])), (u2, aI k 6 (fun _ => 0)), (t3, .inr (12, [.ref u3])), (u3, aI k 6 (fun _ => 0)), (t4, .inr (12, [.ref u4])), (u4, aI k 6 (fun _ => 0)), (t5, .inr (10, [.ref h, .ref r1, .ref r2, .int 0])), (r1, .inr (12, [.ref a1])), (a1, aI k 6 (fun _ => 0)), (r2, .inr (12, [.ref a2])), (a2, aI k 6 (fun _ => 0))]) 13 46 13 := by
  refine CM.of (lv0 := [(0, .ref o0), (1, .ref h), (2, .ref o2)]) (by decide +kernel) (Nat.le_of_ble_eq_true rfl) rfl ?_
  intro p e s m below meth c C hr hlk hin had
  refine g_aload_n (pc := 0) C 0 rfl rfl dX0_init_0 ?_
  refine g_obj (pc := 1) C q_86 q_2 q_3 (Nat.le_of_ble_eq_true rfl) (Nat.le_of_ble_eq_true rfl) dX0_init_1 ?_
  refine g_aload_n (pc := 4) C 0 rfl rfl dX0_init_4 ?_
  refine g_new (pc := 5) (ci := 12) (cells := 0) (slots := 0) (g := 0) C [.null] (T := TX8) inX8 tyX8 tyX8_ok q_87 q_29 q_6 rfl (fun j hj => by rcases (show j = 0 by omega) with rfl <;> rfl) (Nat.le_of_ble_eq_true rfl) (Nat.le_of_ble_eq_true rfl) dX0_init_5 (fun q1 => ?_)
  refine G.eqw (ws' := [(o0, .inr (4, [.null, .null, .null, .null, .null, .null, .null])), (q1, .inr (12, [.null]))]) rfl ?_
  refine g_dup (pc := 8) C rfl dX0_init_8 ?_
  refine g_bipush (pc := 9) (v := 6) C (by decide) dX0_init_9 ?_
  refine g_callI (pc := 11) (cells := 1) (slots := 1) (g := 1) (As := [.int 6]) (st := [.ref q1, .ref o0]) C (nA := 1) rfl (c_X8_init_6 q1 ) q_88 q_33 q_6 q_31 rfl rfl (by decide +kernel) dX0_init_11 ⟨Nat.le_of_ble_eq_true rfl, Nat.le_of_ble_eq_true rfl⟩ [1] [0] rfl (wr := [(o0, .inr (4, [.null, .null, .null, .null, .null, .null, .null]))]) rfl (by decide) (by decide) (by decide) (Nat.le_of_ble_eq_true rfl) ⟨Nat.le_of_ble_eq_true rfl, Nat.le_of_ble_eq_true rfl⟩ (fun rv w1 h1 => ?_)
  obtain ⟨rfl, q2, rfl⟩ := h1
  refine G.aft [0, 1, 2] (ws' := [(o0, .inr (4, [.null, .null, .null, .null, .null, .null, .null])), (q1, .inr (12, [.ref q2])), (q2, aI k 6 (fun _ => 0))]) (st' := [.ref q1, .ref o0]) (cells' := 2) (slots' := 7) (g' := 2) (by decide) rfl rfl rfl rfl rfl ?_
  refine g_putF (pc := 14) C (T := TX0) inX0 0 rfl rfl 2 (by decide) q_84 rfl tyX0 tyX0_ok nmX0 rfl hin rfl [(o0, .inr (4, [.null, .null, .ref q1, .null, .null, .null, .null])), (q1, .inr (12, [.ref q2])), (q2, aI k 6 (fun _ => 0))] (tyX0_ok 2 (by decide)) rfl rfl (Nat.le_of_ble_eq_true rfl) rfl dX0_init_14 ?_
  refine g_aload_n (pc := 17) C 0 rfl rfl dX0_init_17 ?_
  refine g_new (pc := 18) (ci := 12) (cells := 2) (slots := 7) (g := 2) C [.null] (T := TX8) inX8 tyX8 tyX8_ok q_87 q_29 q_6 rfl (fun j hj => by rcases (show j = 0 by omega) with rfl <;> rfl) (Nat.le_of_ble_eq_true rfl) (Nat.le_of_ble_eq_true rfl) dX0_init_18 (fun q3 => ?_)
  refine G.eqw (ws' := [(o0, .inr (4, [.null, .null, .ref q1, .null, .null, .null, .null])), (q1, .inr (12, [.ref q2])), (q2, aI k 6 (fun _ => 0)), (q3, .inr (12, [.null]))]) rfl ?_
  refine g_dup (pc := 21) C rfl dX0_init_21 ?_
  refine g_bipush (pc := 22) (v := 6) C (by decide) dX0_init_22 ?_
  refine g_callI (pc := 24) (cells := 3) (slots := 8) (g := 3) (As := [.int 6]) (st := [.ref q3, .ref o0]) C (nA := 1) rfl (c_X8_init_6 q3 ) q_88 q_33 q_6 q_31 rfl rfl (by decide +kernel) dX0_init_24 ⟨Nat.le_of_ble_eq_true rfl, Nat.le_of_ble_eq_true rfl⟩ [3] [0, 1, 2] rfl (wr := [(o0, .inr (4, [.null, .null, .ref q1, .null, .null, .null, .null])), (q1, .inr (12, [.ref q2])), (q2, aI k 6 (fun _ => 0))]) rfl (by decide) (by decide) (by decide) (Nat.le_of_ble_eq_true rfl) ⟨Nat.le_of_ble_eq_true rfl, Nat.le_of_ble_eq_true rfl⟩ (fun rv w1 h1 => ?_)
  obtain ⟨rfl, q4, rfl⟩ := h1
  refine G.aft [0, 1, 2, 3, 4] (ws' := [(o0, .inr (4, [.null, .null, .ref q1, .null, .null, .null, .null])), (q1, .inr (12, [.ref q2])), (q2, aI k 6 (fun _ => 0)), (q3, .inr (12, [.ref q4])), (q4, aI k 6 (fun _ => 0))]) (st' := [.ref q3, .ref o0]) (cells' := 4) (slots' := 14) (g' := 4) (by decide) rfl rfl rfl rfl rfl ?_
  refine g_putF (pc := 27) C (T := TX0) inX0 0 rfl rfl 3 (by decide) q_89 rfl tyX0 tyX0_ok nmX0 rfl hin rfl [(o0, .inr (4, [.null, .null, .ref q1, .ref q3, .null, .null, .null])), (q1, .inr (12, [.ref q2])), (q2, aI k 6 (fun _ => 0)), (q3, .inr (12, [.ref q4])), (q4, aI k 6 (fun _ => 0))] (tyX0_ok 3 (by decide)) rfl rfl (Nat.le_of_ble_eq_true rfl) rfl dX0_init_27 ?_
  refine g_aload_n (pc := 30) C 0 rfl rfl dX0_init_30 ?_
  refine g_new (pc := 31) (ci := 12) (cells := 4) (slots := 14) (g := 4) C [.null] (T := TX8) inX8 tyX8 tyX8_ok q_87 q_29 q_6 rfl (fun j hj => by rcases (show j = 0 by omega) with rfl <;> rfl) (Nat.le_of_ble_eq_true rfl) (Nat.le_of_ble_eq_true rfl) dX0_init_31 (fun q5 => ?_)
  refine G.eqw (ws' := [(o0, .inr (4, [.null, .null, .ref q1, .ref q3, .null, .null, .null])), (q1, .inr (12, [.ref q2])), (q2, aI k 6 (fun _ => 0)), (q3, .inr (12, [.ref q4])), (q4, aI k 6 (fun _ => 0)), (q5, .inr (12, [.null]))]) rfl ?_
  refine g_dup (pc := 34) C rfl dX0_init_34 ?_
  refine g_bipush (pc := 35) (v := 6) C (by decide) dX0_init_35 ?_
  refine g_callI (pc := 37) (cells := 5) (slots := 15) (g := 5) (As := [.int 6]) (st := [.ref q5, .ref o0]) C (nA := 1) rfl (c_X8_init_6 q5 ) q_88 q_33 q_6 q_31 rfl rfl (by decide +kernel) dX0_init_37 ⟨Nat.le_of_ble_eq_true rfl, Nat.le_of_ble_eq_true rfl⟩ [5] [0, 1, 2, 3, 4] rfl (wr := [(o0, .inr (4, [.null, .null, .ref q1, .ref q3, .null, .null, .null])), (q1, .inr (12, [.ref q2])), (q2, aI k 6 (fun _ => 0)), (q3, .inr (12, [.ref q4])), (q4, aI k 6 (fun _ => 0))]) rfl (by decide) (by decide) (by decide) (Nat.le_of_ble_eq_true rfl) ⟨Nat.le_of_ble_eq_true rfl, Nat.le_of_ble_eq_true rfl⟩ (fun rv w1 h1 => ?_)
  obtain ⟨rfl, q6, rfl⟩ := h1
  refine G.aft [0, 1, 2, 3, 4, 5, 6] (ws' := [(o0, .inr (4, [.null, .null, .ref q1, .ref q3, .null, .null, .null])), (q1, .inr (12, [.ref q2])), (q2, aI k 6 (fun _ => 0)), (q3, .inr (12, [.ref q4])), (q4, aI k 6 (fun _ => 0)), (q5, .inr (12, [.ref q6])), (q6, aI k 6 (fun _ => 0))]) (st' := [.ref q5, .ref o0]) (cells' := 6) (slots' := 21) (g' := 6) (by decide) rfl rfl rfl rfl rfl ?_
  refine g_putF (pc := 40) C (T := TX0) inX0 0 rfl rfl 4 (by decide) q_90 rfl tyX0 tyX0_ok nmX0 rfl hin rfl [(o0, .inr (4, [.null, .null, .ref q1, .ref q3, .ref q5, .null, .null])), (q1, .inr (12, [.ref q2])), (q2, aI k 6 (fun _ => 0)), (q3, .inr (12, [.ref q4])), (q4, aI k 6 (fun _ => 0)), (q5, .inr (12, [.ref q6])), (q6, aI k 6 (fun _ => 0))] (tyX0_ok 4 (by decide)) rfl rfl (Nat.le_of_ble_eq_true rfl) rfl dX0_init_40 ?_
  refine g_aload_n (pc := 43) C 0 rfl rfl dX0_init_43 ?_
  refine g_new (pc := 44) (ci := 12) (cells := 6) (slots := 21) (g := 6) C [.null] (T := TX8) inX8 tyX8 tyX8_ok q_87 q_29 q_6 rfl (fun j hj => by rcases (show j = 0 by omega) with rfl <;> rfl) (Nat.le_of_ble_eq_true rfl) (Nat.le_of_ble_eq_true rfl) dX0_init_44 (fun q7 => ?_)
  refine G.eqw (ws' := [(o0, .inr (4, [.null, .null, .ref q1, .ref q3, .ref q5, .null, .null])), (q1, .inr (12, [.ref q2])), (q2, aI k 6 (fun _ => 0)), (q3, .inr (12, [.ref q4])), (q4, aI k 6 (fun _ => 0)), (q5, .inr (12, [.ref q6])), (q6, aI k 6 (fun _ => 0)), (q7, .inr (12, [.null]))]) rfl ?_
  refine g_dup (pc := 47) C rfl dX0_init_47 ?_
  refine g_bipush (pc := 48) (v := 6) C (by decide) dX0_init_48 ?_
  refine g_callI (pc := 50) (cells := 7) (slots := 22) (g := 7) (As := [.int 6]) (st := [.ref q7, .ref o0]) C (nA := 1) rfl (c_X8_init_6 q7 ) q_88 q_33 q_6 q_31 rfl rfl (by decide +kernel) dX0_init_50 ⟨Nat.le_of_ble_eq_true rfl, Nat.le_of_ble_eq_true rfl⟩ [7] [0, 1, 2, 3, 4, 5, 6] rfl (wr := [(o0, .inr (4, [.null, .null, .ref q1, .ref q3, .ref q5, .null, .null])), (q1, .inr (12, [.ref q2])), (q2, aI k 6 (fun _ => 0)), (q3, .inr (12, [.ref q4])), (q4, aI k 6 (fun _ => 0)), (q5, .inr (12, [.ref q6])), (q6, aI k 6 (fun _ => 0))]) rfl (by decide) (by decide) (by decide) (Nat.le_of_ble_eq_true rfl) ⟨Nat.le_of_ble_eq_true rfl, Nat.le_of_ble_eq_true rfl⟩ (fun rv w1 h1 => ?_)
  obtain ⟨rfl, q8, rfl⟩ := h1
  refine G.aft [0, 1, 2, 3, 4, 5, 6, 7, 8] (ws' := [(o0, .inr (4, [.null, .null, .ref q1, .ref q3, .ref q5, .null, .null])), (q1, .inr (12, [.ref q2])), (q2, aI k 6 (fun _ => 0)), (q3, .inr (12, [.ref q4])), (q4, aI k 6 (fun _ => 0)), (q5, .inr (12, [.ref q6])), (q6, aI k 6 (fun _ => 0)), (q7, .inr (12, [.ref q8])), (q8, aI k 6 (fun _ => 0))]) (st' := [.ref q7, .ref o0]) (cells' := 8) (slots' := 28) (g' := 8) (by decide) rfl rfl rfl rfl rfl ?_
  refine g_putF (pc := 53) C (T := TX0) inX0 0 rfl rfl 5 (by decide) q_91 rfl tyX0 tyX0_ok nmX0 rfl hin rfl [(o0, .inr (4, [.null, .null, .ref q1, .ref q3, .ref q5, .ref q7, .null])), (q1, .inr (12, [.ref q2])), (q2, aI k 6 (fun _ => 0)), (q3, .inr (12, [.ref q4])), (q4, aI k 6 (fun _ => 0)), (q5, .inr (12, [.ref q6])), (q6, aI k 6 (fun _ => 0)), (q7, .inr (12, [.ref q8])), (q8, aI k 6 (fun _ => 0))] (tyX0_ok 5 (by decide)) rfl rfl (Nat.le_of_ble_eq_true rfl) rfl dX0_init_53 ?_
  refine g_aload_n (pc := 56) C 0 rfl rfl dX0_init_56 ?_
  refine g_aload_n (pc := 57) C 1 rfl rfl dX0_init_57 ?_
  refine g_putF (pc := 58) C (T := TX0) inX0 0 rfl rfl 0 (by decide) q_92 rfl tyX0 tyX0_ok nmX0 rfl hin rfl [(o0, .inr (4, [.ref h, .null, .ref q1, .ref q3, .ref q5, .ref q7, .null])), (q1, .inr (12, [.ref q2])), (q2, aI k 6 (fun _ => 0)), (q3, .inr (12, [.ref q4])), (q4, aI k 6 (fun _ => 0)), (q5, .inr (12, [.ref q6])), (q6, aI k 6 (fun _ => 0)), (q7, .inr (12, [.ref q8])), (q8, aI k 6 (fun _ => 0))] (tyX0_ok 0 (by decide)) rfl rfl (Nat.le_of_ble_eq_true rfl) rfl dX0_init_58 ?_
  refine g_aload_n (pc := 61) C 0 rfl rfl dX0_init_61 ?_
  refine g_aload_n (pc := 62) C 2 rfl rfl dX0_init_62 ?_
  refine g_putF (pc := 63) C (T := TX0) inX0 0 rfl rfl 1 (by decide) q_93 rfl tyX0 tyX0_ok nmX0 rfl hin rfl [(o0, .inr (4, [.ref h, .ref o2, .ref q1, .ref q3, .ref q5, .ref q7, .null])), (q1, .inr (12, [.ref q2])), (q2, aI k 6 (fun _ => 0)), (q3, .inr (12, [.ref q4])), (q4, aI k 6 (fun _ => 0)), (q5, .inr (12, [.ref q6])), (q6, aI k 6 (fun _ => 0)), (q7, .inr (12, [.ref q8])), (q8, aI k 6 (fun _ => 0))] (tyX0_ok 1 (by decide)) rfl rfl (Nat.le_of_ble_eq_true rfl) rfl dX0_init_63 ?_
  refine g_aload_n (pc := 66) C 0 rfl rfl dX0_init_66 ?_
  refine g_new (pc := 67) (ci := 10) (cells := 8) (slots := 28) (g := 8) C [.null, .null, .null, .int 0] (T := TX6) inX6 tyX6 tyX6_ok q_95 q_94 q_43 rfl (fun j hj => by rcases (show j = 0 ∨ j = 1 ∨ j = 2 ∨ j = 3 by omega) with rfl | rfl | rfl | rfl <;> rfl) (Nat.le_of_ble_eq_true rfl) (Nat.le_of_ble_eq_true rfl) dX0_init_67 (fun q9 => ?_)
  refine G.eqw (ws' := [(o0, .inr (4, [.ref h, .ref o2, .ref q1, .ref q3, .ref q5, .ref q7, .null])), (q1, .inr (12, [.ref q2])), (q2, aI k 6 (fun _ => 0)), (q3, .inr (12, [.ref q4])), (q4, aI k 6 (fun _ => 0)), (q5, .inr (12, [.ref q6])), (q6, aI k 6 (fun _ => 0)), (q7, .inr (12, [.ref q8])), (q8, aI k 6 (fun _ => 0)), (q9, .inr (10, [.null, .null, .null, .int 0]))]) rfl ?_
  refine g_dup (pc := 70) C rfl dX0_init_70 ?_
  refine g_aload_n (pc := 71) C 1 rfl rfl dX0_init_71 ?_
  refine g_callI (pc := 72) (cells := 9) (slots := 32) (g := 9) (As := [.ref h]) (st := [.ref q9, .ref o0]) C (nA := 1) rfl (c_X6_init q9 h ) q_97 q_98 q_43 q_96 rfl rfl (by decide +kernel) dX0_init_72 ⟨Nat.le_of_ble_eq_true rfl, Nat.le_of_ble_eq_true rfl⟩ [9] [0, 1, 2, 3, 4, 5, 6, 7, 8] rfl (wr := [(o0, .inr (4, [.ref h, .ref o2, .ref q1, .ref q3, .ref q5, .ref q7, .null])), (q1, .inr (12, [.ref q2])), (q2, aI k 6 (fun _ => 0)), (q3, .inr (12, [.ref q4])), (q4, aI k 6 (fun _ => 0)), (q5, .inr (12, [.ref q6])), (q6, aI k 6 (fun _ => 0)), (q7, .inr (12, [.ref q8])), (q8, aI k 6 (fun _ => 0))]) rfl (by decide) (by decide) (by decide) (Nat.le_of_ble_eq_true rfl) ⟨Nat.le_of_ble_eq_true rfl, Nat.le_of_ble_eq_true rfl⟩ (fun rv w1 h1 => ?_)
  obtain ⟨rfl, q10, q11, q12, q13, rfl⟩ := h1
  refine G.aft [0, 1, 2, 3, 4, 5, 6, 7, 8, 9, 10, 11, 12, 13] (ws' := [(o0, .inr (4, [.ref h, .ref o2, .ref q1, .ref q3, .ref q5, .ref q7, .null])), (q1, .inr (12, [.ref q2])), (q2, aI k 6 (fun _ => 0)), (q3, .inr (12, [.ref q4])), (q4, aI k 6 (fun _ => 0)), (q5, .inr (12, [.ref q6])), (q6, aI k 6 (fun _ => 0)), (q7, .inr (12, [.ref q8])), (q8, aI k 6 (fun _ => 0)), (q9, .inr (10, [.ref h, .ref q10, .ref q12, .int 0])), (q10, .inr (12, [.ref q11])), (q11, aI k 6 (fun _ => 0)), (q12, .inr (12, [.ref q13])), (q13, aI k 6 (fun _ => 0))]) (st' := [.ref q9, .ref o0]) (cells' := 13) (slots' := 46) (g' := 13) (by decide) rfl rfl rfl rfl rfl ?_
  refine g_putF (pc := 75) C (T := TX0) inX0 0 rfl rfl 6 (by decide) q_99 rfl tyX0 tyX0_ok nmX0 rfl hin rfl [(o0, .inr (4, [.ref h, .ref o2, .ref q1, .ref q3, .ref q5, .ref q7, .ref q9])), (q1, .inr (12, [.ref q2])), (q2, aI k 6 (fun _ => 0)), (q3, .inr (12, [.ref q4])), (q4, aI k 6 (fun _ => 0)), (q5, .inr (12, [.ref q6])), (q6, aI k 6 (fun _ => 0)), (q7, .inr (12, [.ref q8])), (q8, aI k 6 (fun _ => 0)), (q9, .inr (10, [.ref h, .ref q10, .ref q12, .int 0])), (q10, .inr (12, [.ref q11])), (q11, aI k 6 (fun _ => 0)), (q12, .inr (12, [.ref q13])), (q13, aI k 6 (fun _ => 0))] (tyX0_ok 6 (by decide)) rfl rfl (Nat.le_of_ble_eq_true rfl) rfl dX0_init_75 ?_
  exact g_vret (pc := 78) C hr hlk (by first | decide | omega) (by first | decide | omega) (by first | decide | omega) dX0_init_78 ⟨rfl, q1, q3, q5, q7, q9, q2, q4, q6, q8, q10, q11, q12, q13, rfl⟩
set_option maxRecDepth 100000 in
set_option maxHeartbeats 400000 in
theorem c_X2_init {l : Launch} {D : va_G} {k : Nat → ClassId} (o2 : Nat) (h : Nat)  : CM l D k yX2_init cX2_init 2 none  3 54 [.ref o2, .ref h] [(o2, .inr (6, [.null, .null, .null, .null]))] (fun rv9 w9 => rv9 = none ∧ ∃ (g1 : Nat) (g2 : Nat) (g3 : Nat) (v3 : Nat) (r1 : Nat) (a1 : Nat) (r2 : Nat) (a2 : Nat) (r3 : Nat) (a3 : Nat) (r4 : Nat) (a4 : Nat), w9 = [(o2, .inr (6, [.ref h, .ref g1, .ref g2, .ref g3])), (g3, .inr (12, [.ref v3])), (v3, aI k 6 (fun _ => 0)), (g1, .inr (10, [.ref h, .ref r1, .ref r2, .int 0])), (r1, .inr (12, [.ref a1])), (a1, aI k 6 (fun _ => 0)), (r2, .inr (12, [.ref a2])), (a2, aI k 6 (fun _ => 0)), (g2, .inr (10, [.ref h, .ref r3, .ref r4, .int 0])), (r3, .inr (12, [.ref a3])), (a3, aI k 6 (fun _ => 0)), (r4, .inr (12, [.ref a4])), (a4, aI k 6 (fun _ => 0))]) 12 43 12 := by
  refine CM.of (lv0 := [(0, .ref o2), (1, .ref h)]) (by decide +kernel) (Nat.le_of_ble_eq_true rfl) rfl ?_
  intro p e s m below meth c C hr hlk hin had
  refine g_aload_n (pc := 0) C 0 rfl rfl dX2_init_0 ?_
  refine g_obj (pc := 1) C q_100 q_2 q_3 (Nat.le_of_ble_eq_true rfl) (Nat.le_of_ble_eq_true rfl) dX2_init_1 ?_
  refine g_aload_n (pc := 4) C 0 rfl rfl dX2_init_4 ?_
  refine g_new (pc := 5) (ci := 12) (cells := 0) (slots := 0) (g := 0) C [.null] (T := TX8) inX8 tyX8 tyX8_ok q_101 q_29 q_6 rfl (fun j hj => by rcases (show j = 0 by omega) with rfl <;> rfl) (Nat.le_of_ble_eq_true rfl) (Nat.le_of_ble_eq_true rfl) dX2_init_5 (fun q1 => ?_)
  refine G.eqw (ws' := [(o2, .inr (6, [.null, .null, .null, .null])), (q1, .inr (12, [.null]))]) rfl ?_
  refine g_dup (pc := 8) C rfl dX2_init_8 ?_
  refine g_bipush (pc := 9) (v := 6) C (by decide) dX2_init_9 ?_
  refine g_callI (pc := 11) (cells := 1) (slots := 1) (g := 1) (As := [.int 6]) (st := [.ref q1, .ref o2]) C (nA := 1) rfl (c_X8_init_6 q1 ) q_102 q_33 q_6 q_31 rfl rfl (by decide +kernel) dX2_init_11 ⟨Nat.le_of_ble_eq_true rfl, Nat.le_of_ble_eq_true rfl⟩ [1] [0] rfl (wr := [(o2, .inr (6, [.null, .null, .null, .null]))]) rfl (by decide) (by decide) (by decide) (Nat.le_of_ble_eq_true rfl) ⟨Nat.le_of_ble_eq_true rfl, Nat.le_of_ble_eq_true rfl⟩ (fun rv w1 h1 => ?_)
  obtain ⟨rfl, q2, rfl⟩ := h1
  refine G.aft [0, 1, 2] (ws' := [(o2, .inr (6, [.null, .null, .null, .null])), (q1, .inr (12, [.ref q2])), (q2, aI k 6 (fun _ => 0))]) (st' := [.ref q1, .ref o2]) (cells' := 2) (slots' := 7) (g' := 2) (by decide) rfl rfl rfl rfl rfl ?_
  refine g_putF (pc := 14) C (T := TX2) inX2 0 rfl rfl 3 (by decide) q_103 rfl tyX2 tyX2_ok nmX2 rfl hin rfl [(o2, .inr (6, [.null, .null, .null, .ref q1])), (q1, .inr (12, [.ref q2])), (q2, aI k 6 (fun _ => 0))] (tyX2_ok 3 (by decide)) rfl rfl (Nat.le_of_ble_eq_true rfl) rfl dX2_init_14 ?_
  refine g_aload_n (pc := 17) C 0 rfl rfl dX2_init_17 ?_
  refine g_aload_n (pc := 18) C 1 rfl rfl dX2_init_18 ?_
  refine g_putF (pc := 19) C (T := TX2) inX2 0 rfl rfl 0 (by decide) q_104 rfl tyX2 tyX2_ok nmX2 rfl hin rfl [(o2, .inr (6, [.ref h, .null, .null, .ref q1])), (q1, .inr (12, [.ref q2])), (q2, aI k 6 (fun _ => 0))] (tyX2_ok 0 (by decide)) rfl rfl (Nat.le_of_ble_eq_true rfl) rfl dX2_init_19 ?_
  refine g_aload_n (pc := 22) C 0 rfl rfl dX2_init_22 ?_
  refine g_new (pc := 23) (ci := 10) (cells := 2) (slots := 7) (g := 2) C [.null, .null, .null, .int 0] (T := TX6) inX6 tyX6 tyX6_ok q_105 q_94 q_43 rfl (fun j hj => by rcases (show j = 0 ∨ j = 1 ∨ j = 2 ∨ j = 3 by omega) with rfl | rfl | rfl | rfl <;> rfl) (Nat.le_of_ble_eq_true rfl) (Nat.le_of_ble_eq_true rfl) dX2_init_23 (fun q3 => ?_)
  refine G.eqw (ws' := [(o2, .inr (6, [.ref h, .null, .null, .ref q1])), (q1, .inr (12, [.ref q2])), (q2, aI k 6 (fun _ => 0)), (q3, .inr (10, [.null, .null, .null, .int 0]))]) rfl ?_
  refine g_dup (pc := 26) C rfl dX2_init_26 ?_
  refine g_aload_n (pc := 27) C 1 rfl rfl dX2_init_27 ?_
  refine g_callI (pc := 28) (cells := 3) (slots := 11) (g := 3) (As := [.ref h]) (st := [.ref q3, .ref o2]) C (nA := 1) rfl (c_X6_init q3 h ) q_106 q_98 q_43 q_96 rfl rfl (by decide +kernel) dX2_init_28 ⟨Nat.le_of_ble_eq_true rfl, Nat.le_of_ble_eq_true rfl⟩ [3] [0, 1, 2] rfl (wr := [(o2, .inr (6, [.ref h, .null, .null, .ref q1])), (q1, .inr (12, [.ref q2])), (q2, aI k 6 (fun _ => 0))]) rfl (by decide) (by decide) (by decide) (Nat.le_of_ble_eq_true rfl) ⟨Nat.le_of_ble_eq_true rfl, Nat.le_of_ble_eq_true rfl⟩ (fun rv w1 h1 => ?_)
  obtain ⟨rfl, q4, q5, q6, q7, rfl⟩ := h1
  refine G.aft [0, 1, 2, 3, 4, 5, 6, 7] (ws' := [(o2, .inr (6, [.ref h, .null, .null, .ref q1])), (q1, .inr (12, [.ref q2])), (q2, aI k 6 (fun _ => 0)), (q3, .inr (10, [.ref h, .ref q4, .ref q6, .int 0])), (q4, .inr (12, [.ref q5])), (q5, aI k 6 (fun _ => 0)), (q6, .inr (12, [.ref q7])), (q7, aI k 6 (fun _ => 0))]) (st' := [.ref q3, .ref o2]) (cells' := 7) (slots' := 25) (g' := 7) (by decide) rfl rfl rfl rfl rfl ?_
  refine g_putF (pc := 31) C (T := TX2) inX2 0 rfl rfl 1 (by decide) q_107 rfl tyX2 tyX2_ok nmX2 rfl hin rfl [(o2, .inr (6, [.ref h, .ref q3, .null, .ref q1])), (q1, .inr (12, [.ref q2])), (q2, aI k 6 (fun _ => 0)), (q3, .inr (10, [.ref h, .ref q4, .ref q6, .int 0])), (q4, .inr (12, [.ref q5])), (q5, aI k 6 (fun _ => 0)), (q6, .inr (12, [.ref q7])), (q7, aI k 6 (fun _ => 0))] (tyX2_ok 1 (by decide)) rfl rfl (Nat.le_of_ble_eq_true rfl) rfl dX2_init_31 ?_
  refine g_aload_n (pc := 34) C 0 rfl rfl dX2_init_34 ?_
  refine g_new (pc := 35) (ci := 10) (cells := 7) (slots := 25) (g := 7) C [.null, .null, .null, .int 0] (T := TX6) inX6 tyX6 tyX6_ok q_105 q_94 q_43 rfl (fun j hj => by rcases (show j = 0 ∨ j = 1 ∨ j = 2 ∨ j = 3 by omega) with rfl | rfl | rfl | rfl <;> rfl) (Nat.le_of_ble_eq_true rfl) (Nat.le_of_ble_eq_true rfl) dX2_init_35 (fun q8 => ?_)
  refine G.eqw (ws' := [(o2, .inr (6, [.ref h, .ref q3, .null, .ref q1])), (q1, .inr (12, [.ref q2])), (q2, aI k 6 (fun _ => 0)), (q3, .inr (10, [.ref h, .ref q4, .ref q6, .int 0])), (q4, .inr (12, [.ref q5])), (q5, aI k 6 (fun _ => 0)), (q6, .inr (12, [.ref q7])), (q7, aI k 6 (fun _ => 0)), (q8, .inr (10, [.null, .null, .null, .int 0]))]) rfl ?_
  refine g_dup (pc := 38) C rfl dX2_init_38 ?_
  refine g_aload_n (pc := 39) C 1 rfl rfl dX2_init_39 ?_
  refine g_callI (pc := 40) (cells := 8) (slots := 29) (g := 8) (As := [.ref h]) (st := [.ref q8, .ref o2]) C (nA := 1) rfl (c_X6_init q8 h ) q_106 q_98 q_43 q_96 rfl rfl (by decide +kernel) dX2_init_40 ⟨Nat.le_of_ble_eq_true rfl, Nat.le_of_ble_eq_true rfl⟩ [8] [0, 1, 2, 3, 4, 5, 6, 7] rfl (wr := [(o2, .inr (6, [.ref h, .ref q3, .null, .ref q1])), (q1, .inr (12, [.ref q2])), (q2, aI k 6 (fun _ => 0)), (q3, .inr (10, [.ref h, .ref q4, .ref q6, .int 0])), (q4, .inr (12, [.ref q5])), (q5, aI k 6 (fun _ => 0)), (q6, .inr (12, [.ref q7])), (q7, aI k 6 (fun _ => 0))]) rfl (by decide) (by decide) (by decide) (Nat.le_of_ble_eq_true rfl) ⟨Nat.le_of_ble_eq_true rfl, Nat.le_of_ble_eq_true rfl⟩ (fun rv w1 h1 => ?_)
  obtain ⟨rfl, q9, q10, q11, q12, rfl⟩ := h1
  refine G.aft [0, 1, 2, 3, 4, 5, 6, 7, 8, 9, 10, 11, 12] (ws' := [(o2, .inr (6, [.ref h, .ref q3, .null, .ref q1])), (q1, .inr (12, [.ref q2])), (q2, aI k 6 (fun _ => 0)), (q3, .inr (10, [.ref h, .ref q4, .ref q6, .int 0])), (q4, .inr (12, [.ref q5])), (q5, aI k 6 (fun _ => 0)), (q6, .inr (12, [.ref q7])), (q7, aI k 6 (fun _ => 0)), (q8, .inr (10, [.ref h, .ref q9, .ref q11, .int 0])), (q9, .inr (12, [.ref q10])), (q10, aI k 6 (fun _ => 0)), (q11, .inr (12, [.ref q12])), (q12, aI k 6 (fun _ => 0))]) (st' := [.ref q8, .ref o2]) (cells' := 12) (slots' := 43) (g' := 12) (by decide) rfl rfl rfl rfl rfl ?_
  refine g_putF (pc := 43) C (T := TX2) inX2 0 rfl rfl 2 (by decide) q_108 rfl tyX2 tyX2_ok nmX2 rfl hin rfl [(o2, .inr (6, [.ref h, .ref q3, .ref q8, .ref q1])), (q1, .inr (12, [.ref q2])), (q2, aI k 6 (fun _ => 0)), (q3, .inr (10, [.ref h, .ref q4, .ref q6, .int 0])), (q4, .inr (12, [.ref q5])), (q5, aI k 6 (fun _ => 0)), (q6, .inr (12, [.ref q7])), (q7, aI k 6 (fun _ => 0)), (q8, .inr (10, [.ref h, .ref q9, .ref q11, .int 0])), (q9, .inr (12, [.ref q10])), (q10, aI k 6 (fun _ => 0)), (q11, .inr (12, [.ref q12])), (q12, aI k 6 (fun _ => 0))] (tyX2_ok 2 (by decide)) rfl rfl (Nat.le_of_ble_eq_true rfl) rfl dX2_init_43 ?_
  exact g_vret (pc := 46) C hr hlk (by first | decide | omega) (by first | decide | omega) (by first | decide | omega) dX2_init_46 ⟨rfl, q3, q8, q1, q2, q4, q5, q6, q7, q9, q10, q11, q12, rfl⟩
set_option maxRecDepth 100000 in
set_option maxHeartbeats 400000 in
theorem c_X5_init {l : Launch} {D : va_G} {k : Nat → ClassId} (h : Nat)  : CM l D k yX5_init cX5_init 1 none  1 12 [.ref h] [(h, .inr (9, [.null]))] (fun rv9 w9 => rv9 = none ∧ ∃ (a : Nat), w9 = [(h, .inr (9, [.ref a])), (a, aJ k 25 (fun _ => 0))]) 1 25 1 := by
  refine CM.of (lv0 := [(0, .ref h)]) (by decide +kernel) (Nat.le_of_ble_eq_true rfl) rfl ?_
  intro p e s m below meth c C hr hlk hin had
  refine g_aload_n (pc := 0) C 0 rfl rfl dX5_init_0 ?_
  refine g_obj (pc := 1) C q_109 q_2 q_3 (Nat.le_of_ble_eq_true rfl) (Nat.le_of_ble_eq_true rfl) dX5_init_1 ?_
  refine g_aload_n (pc := 4) C 0 rfl rfl dX5_init_4 ?_
  refine g_bipush (pc := 5) (v := 25) C (by decide) dX5_init_5 ?_
  refine g_newJ (pc := 7) (cells := 0) (slots := 0) (g := 0) C 25 q_110 (by decide) (by decide) (Nat.le_of_ble_eq_true rfl) (Nat.le_of_ble_eq_true rfl) (Nat.le_of_ble_eq_true rfl) dX5_init_7 (fun q1 => ?_)
  refine G.eqw (ws' := [(h, .inr (9, [.null])), (q1, aJ k 25 (fun _ => 0))]) rfl ?_
  refine g_putF (pc := 9) C (T := TX5) inX5 0 rfl rfl 0 (by decide) q_111 rfl tyX5 tyX5_ok nmX5 rfl hin rfl [(h, .inr (9, [.ref q1])), (q1, aJ k 25 (fun _ => 0))] (tyX5_ok 0 (by decide)) rfl rfl (Nat.le_of_ble_eq_true rfl) rfl dX5_init_9 ?_
  exact g_vret (pc := 12) C hr hlk (by first | decide | omega) (by first | decide | omega) (by first | decide | omega) dX5_init_12 ⟨rfl, q1, rfl⟩
set_option maxRecDepth 100000 in
set_option maxHeartbeats 400000 in
theorem c_X4_init {l : Launch} {D : va_G} {k : Nat → ClassId} (o4 : Nat) (h : Nat)  : CM l D k yX4_init cX4_init 2 none  2 33 [.ref o4, .ref h] [(o4, .inr (8, [.null, .null, .null]))] (fun rv9 w9 => rv9 = none ∧ ∃ (m1 : Nat) (m2 : Nat) (m3 : Nat) (m4 : Nat), w9 = [(o4, .inr (8, [.ref h, .ref m1, .ref m2])), (m1, .inr (9, [.ref m3])), (m3, aJ k 25 (fun _ => 0)), (m2, .inr (12, [.ref m4])), (m4, aI k 6 (fun _ => 0))]) 4 33 4 := by
  refine CM.of (lv0 := [(0, .ref o4), (1, .ref h)]) (by decide +kernel) (Nat.le_of_ble_eq_true rfl) rfl ?_
  intro p e s m below meth c C hr hlk hin had
  refine g_aload_n (pc := 0) C 0 rfl rfl dX4_init_0 ?_
  refine g_obj (pc := 1) C q_112 q_2 q_3 (Nat.le_of_ble_eq_true rfl) (Nat.le_of_ble_eq_true rfl) dX4_init_1 ?_
  refine g_aload_n (pc := 4) C 0 rfl rfl dX4_init_4 ?_
  refine g_new (pc := 5) (ci := 9) (cells := 0) (slots := 0) (g := 0) C [.null] (T := TX5) inX5 tyX5 tyX5_ok q_114 q_113 q_115 rfl (fun j hj => by rcases (show j = 0 by omega) with rfl <;> rfl) (Nat.le_of_ble_eq_true rfl) (Nat.le_of_ble_eq_true rfl) dX4_init_5 (fun q1 => ?_)
  refine G.eqw (ws' := [(o4, .inr (8, [.null, .null, .null])), (q1, .inr (9, [.null]))]) rfl ?_
  refine g_dup (pc := 8) C rfl dX4_init_8 ?_
  refine g_callIN (pc := 9) (cells := 1) (slots := 1) (g := 1) (As := []) (st := [.ref q1, .ref o4]) C (nA := 0) rfl (c_X5_init q1 ) (host := "Chipfold") (by decide +kernel) q_117 q_115 q_116 rfl rfl (by decide +kernel) dX4_init_9 ⟨Nat.le_of_ble_eq_true rfl, Nat.le_of_ble_eq_true rfl⟩ [1] [0] rfl (wr := [(o4, .inr (8, [.null, .null, .null]))]) rfl (by decide) (by decide) (by decide) (Nat.le_of_ble_eq_true rfl) ⟨Nat.le_of_ble_eq_true rfl, Nat.le_of_ble_eq_true rfl⟩ (fun rv w1 h1 => ?_)
  obtain ⟨rfl, q2, rfl⟩ := h1
  refine G.aft [0, 1, 2] (ws' := [(o4, .inr (8, [.null, .null, .null])), (q1, .inr (9, [.ref q2])), (q2, aJ k 25 (fun _ => 0))]) (st' := [.ref q1, .ref o4]) (cells' := 2) (slots' := 26) (g' := 2) (by decide) rfl rfl rfl rfl rfl ?_
  refine g_putF (pc := 12) C (T := TX4) inX4 0 rfl rfl 1 (by decide) q_118 rfl tyX4 tyX4_ok nmX4 rfl hin rfl [(o4, .inr (8, [.null, .ref q1, .null])), (q1, .inr (9, [.ref q2])), (q2, aJ k 25 (fun _ => 0))] (tyX4_ok 1 (by decide)) rfl rfl (Nat.le_of_ble_eq_true rfl) rfl dX4_init_12 ?_
  refine g_aload_n (pc := 15) C 0 rfl rfl dX4_init_15 ?_
  refine g_new (pc := 16) (ci := 12) (cells := 2) (slots := 26) (g := 2) C [.null] (T := TX8) inX8 tyX8 tyX8_ok q_119 q_29 q_6 rfl (fun j hj => by rcases (show j = 0 by omega) with rfl <;> rfl) (Nat.le_of_ble_eq_true rfl) (Nat.le_of_ble_eq_true rfl) dX4_init_16 (fun q3 => ?_)
  refine G.eqw (ws' := [(o4, .inr (8, [.null, .ref q1, .null])), (q1, .inr (9, [.ref q2])), (q2, aJ k 25 (fun _ => 0)), (q3, .inr (12, [.null]))]) rfl ?_
  refine g_dup (pc := 19) C rfl dX4_init_19 ?_
  refine g_bipush (pc := 20) (v := 6) C (by decide) dX4_init_20 ?_
  refine g_callI (pc := 22) (cells := 3) (slots := 27) (g := 3) (As := [.int 6]) (st := [.ref q3, .ref o4]) C (nA := 1) rfl (c_X8_init_6 q3 ) q_120 q_33 q_6 q_31 rfl rfl (by decide +kernel) dX4_init_22 ⟨Nat.le_of_ble_eq_true rfl, Nat.le_of_ble_eq_true rfl⟩ [3] [0, 1, 2] rfl (wr := [(o4, .inr (8, [.null, .ref q1, .null])), (q1, .inr (9, [.ref q2])), (q2, aJ k 25 (fun _ => 0))]) rfl (by decide) (by decide) (by decide) (Nat.le_of_ble_eq_true rfl) ⟨Nat.le_of_ble_eq_true rfl, Nat.le_of_ble_eq_true rfl⟩ (fun rv w1 h1 => ?_)
  obtain ⟨rfl, q4, rfl⟩ := h1
  refine G.aft [0, 1, 2, 3, 4] (ws' := [(o4, .inr (8, [.null, .ref q1, .null])), (q1, .inr (9, [.ref q2])), (q2, aJ k 25 (fun _ => 0)), (q3, .inr (12, [.ref q4])), (q4, aI k 6 (fun _ => 0))]) (st' := [.ref q3, .ref o4]) (cells' := 4) (slots' := 33) (g' := 4) (by decide) rfl rfl rfl rfl rfl ?_
  refine g_putF (pc := 25) C (T := TX4) inX4 0 rfl rfl 2 (by decide) q_121 rfl tyX4 tyX4_ok nmX4 rfl hin rfl [(o4, .inr (8, [.null, .ref q1, .ref q3])), (q1, .inr (9, [.ref q2])), (q2, aJ k 25 (fun _ => 0)), (q3, .inr (12, [.ref q4])), (q4, aI k 6 (fun _ => 0))] (tyX4_ok 2 (by decide)) rfl rfl (Nat.le_of_ble_eq_true rfl) rfl dX4_init_25 ?_
  refine g_aload_n (pc := 28) C 0 rfl rfl dX4_init_28 ?_
  refine g_aload_n (pc := 29) C 1 rfl rfl dX4_init_29 ?_
  refine g_putF (pc := 30) C (T := TX4) inX4 0 rfl rfl 0 (by decide) q_122 rfl tyX4 tyX4_ok nmX4 rfl hin rfl [(o4, .inr (8, [.ref h, .ref q1, .ref q3])), (q1, .inr (9, [.ref q2])), (q2, aJ k 25 (fun _ => 0)), (q3, .inr (12, [.ref q4])), (q4, aI k 6 (fun _ => 0))] (tyX4_ok 0 (by decide)) rfl rfl (Nat.le_of_ble_eq_true rfl) rfl dX4_init_30 ?_
  exact g_vret (pc := 33) C hr hlk (by first | decide | omega) (by first | decide | omega) (by first | decide | omega) dX4_init_33 ⟨rfl, q1, q3, q2, q4, rfl⟩
set_option maxRecDepth 100000 in
set_option maxHeartbeats 400000 in
theorem c_X9_init {l : Launch} {D : va_G} {k : Nat → ClassId} (h : Nat)  : CM l D k yX9_init cX9_init 1 none  2 33 [.ref h] [(h, .inr (13, [.null]))] (fun rv9 w9 => rv9 = none ∧ ∃ (r : Nat) (a : Nat), w9 = [(h, .inr (13, [.ref r])), (r, .inr (12, [.ref a])), (a, aI k 252 (fun _ => 0))]) 2 253 2 := by
  refine CM.of (lv0 := [(0, .ref h)]) (by decide +kernel) (Nat.le_of_ble_eq_true rfl) rfl ?_
  intro p e s m below meth c C hr hlk hin had
  refine g_aload_n (pc := 0) C 0 rfl rfl dX9_init_0 ?_
  refine g_obj (pc := 1) C q_123 q_2 q_3 (Nat.le_of_ble_eq_true rfl) (Nat.le_of_ble_eq_true rfl) dX9_init_1 ?_
  refine g_aload_n (pc := 4) C 0 rfl rfl dX9_init_4 ?_
  refine g_new (pc := 5) (ci := 12) (cells := 0) (slots := 0) (g := 0) C [.null] (T := TX8) inX8 tyX8 tyX8_ok q_124 q_29 q_6 rfl (fun j hj => by rcases (show j = 0 by omega) with rfl <;> rfl) (Nat.le_of_ble_eq_true rfl) (Nat.le_of_ble_eq_true rfl) dX9_init_5 (fun q1 => ?_)
  refine G.eqw (ws' := [(h, .inr (13, [.null])), (q1, .inr (12, [.null]))]) rfl ?_
  refine g_dup (pc := 8) C rfl dX9_init_8 ?_
  refine g_sipush (pc := 9) (v := 252) C (by decide) dX9_init_9 ?_
  refine g_callI (pc := 12) (cells := 1) (slots := 1) (g := 1) (As := [.int 252]) (st := [.ref q1, .ref h]) C (nA := 1) rfl (c_X8_init_252 q1 ) q_125 q_33 q_6 q_31 rfl rfl (by decide +kernel) dX9_init_12 ⟨Nat.le_of_ble_eq_true rfl, Nat.le_of_ble_eq_true rfl⟩ [1] [0] rfl (wr := [(h, .inr (13, [.null]))]) rfl (by decide) (by decide) (by decide) (Nat.le_of_ble_eq_true rfl) ⟨Nat.le_of_ble_eq_true rfl, Nat.le_of_ble_eq_true rfl⟩ (fun rv w1 h1 => ?_)
  obtain ⟨rfl, q2, rfl⟩ := h1
  refine G.aft [0, 1, 2] (ws' := [(h, .inr (13, [.null])), (q1, .inr (12, [.ref q2])), (q2, aI k 252 (fun _ => 0))]) (st' := [.ref q1, .ref h]) (cells' := 2) (slots' := 253) (g' := 2) (by decide) rfl rfl rfl rfl rfl ?_
  refine g_putF (pc := 15) C (T := TX9) inX9 0 rfl rfl 0 (by decide) q_126 rfl tyX9 tyX9_ok nmX9 rfl hin rfl [(h, .inr (13, [.ref q1])), (q1, .inr (12, [.ref q2])), (q2, aI k 252 (fun _ => 0))] (tyX9_ok 0 (by decide)) rfl rfl (Nat.le_of_ble_eq_true rfl) rfl dX9_init_15 ?_
  exact g_vret (pc := 18) C hr hlk (by first | decide | omega) (by first | decide | omega) (by first | decide | omega) dX9_init_18 ⟨rfl, q1, q2, rfl⟩
set_option maxRecDepth 100000 in
set_option maxHeartbeats 400000 in
theorem c_X1_init {l : Launch} {D : va_G} {k : Nat → ClassId} (h : Nat)  : CM l D k yX1_init cX1_init 1 none  2 33 [.ref h] [(h, .inr (5, [.null, .int 0]))] (fun rv9 w9 => rv9 = none ∧ ∃ (r : Nat) (a : Nat), w9 = [(h, .inr (5, [.ref r, .int 0])), (r, .inr (12, [.ref a])), (a, aI k 81 (fun _ => 0))]) 2 82 2 := by
  refine CM.of (lv0 := [(0, .ref h)]) (by decide +kernel) (Nat.le_of_ble_eq_true rfl) rfl ?_
  intro p e s m below meth c C hr hlk hin had
  refine g_aload_n (pc := 0) C 0 rfl rfl dX1_init_0 ?_
  refine g_obj (pc := 1) C q_127 q_2 q_3 (Nat.le_of_ble_eq_true rfl) (Nat.le_of_ble_eq_true rfl) dX1_init_1 ?_
  refine g_aload_n (pc := 4) C 0 rfl rfl dX1_init_4 ?_
  refine g_new (pc := 5) (ci := 12) (cells := 0) (slots := 0) (g := 0) C [.null] (T := TX8) inX8 tyX8 tyX8_ok q_128 q_29 q_6 rfl (fun j hj => by rcases (show j = 0 by omega) with rfl <;> rfl) (Nat.le_of_ble_eq_true rfl) (Nat.le_of_ble_eq_true rfl) dX1_init_5 (fun q1 => ?_)
  refine G.eqw (ws' := [(h, .inr (5, [.null, .int 0])), (q1, .inr (12, [.null]))]) rfl ?_
  refine g_dup (pc := 8) C rfl dX1_init_8 ?_
  refine g_bipush (pc := 9) (v := 81) C (by decide) dX1_init_9 ?_
  refine g_callI (pc := 11) (cells := 1) (slots := 1) (g := 1) (As := [.int 81]) (st := [.ref q1, .ref h]) C (nA := 1) rfl (c_X8_init_81 q1 ) q_129 q_33 q_6 q_31 rfl rfl (by decide +kernel) dX1_init_11 ⟨Nat.le_of_ble_eq_true rfl, Nat.le_of_ble_eq_true rfl⟩ [1] [0] rfl (wr := [(h, .inr (5, [.null, .int 0]))]) rfl (by decide) (by decide) (by decide) (Nat.le_of_ble_eq_true rfl) ⟨Nat.le_of_ble_eq_true rfl, Nat.le_of_ble_eq_true rfl⟩ (fun rv w1 h1 => ?_)
  obtain ⟨rfl, q2, rfl⟩ := h1
  refine G.aft [0, 1, 2] (ws' := [(h, .inr (5, [.null, .int 0])), (q1, .inr (12, [.ref q2])), (q2, aI k 81 (fun _ => 0))]) (st' := [.ref q1, .ref h]) (cells' := 2) (slots' := 82) (g' := 2) (by decide) rfl rfl rfl rfl rfl ?_
  refine g_putF (pc := 14) C (T := TX1) inX1 0 rfl rfl 0 (by decide) q_130 rfl tyX1 tyX1_ok nmX1 rfl hin rfl [(h, .inr (5, [.ref q1, .int 0])), (q1, .inr (12, [.ref q2])), (q2, aI k 81 (fun _ => 0))] (tyX1_ok 0 (by decide)) rfl rfl (Nat.le_of_ble_eq_true rfl) rfl dX1_init_14 ?_
  refine g_aload_n (pc := 17) C 0 rfl rfl dX1_init_17 ?_
  refine g_iconst (pc := 18) (v := 0) C (by decide) dX1_init_18 ?_
  refine g_put (pc := 19) C (T := TX1) inX1 0 rfl rfl 1 (by decide) q_131 rfl tyX1 tyX1_ok nmX1 rfl [(h, .inr (5, [.ref q1, .int 0])), (q1, .inr (12, [.ref q2])), (q2, aI k 81 (fun _ => 0))] (tyX1_ok 1 (by decide)) rfl (by rfl) (Nat.le_of_ble_eq_true rfl) rfl dX1_init_19 ?_
  exact g_vret (pc := 22) C hr hlk (by first | decide | omega) (by first | decide | omega) (by first | decide | omega) dX1_init_22 ⟨rfl, q1, q2, rfl⟩
set_option maxRecDepth 100000 in
set_option maxHeartbeats 400000 in
theorem c_X10_init {l : Launch} {D : va_G} {k : Nat → ClassId} (o : Nat)  : CM l D k yX10_init cX10_init 3 none  4 76 [.ref o] [(o, .inr (14, [.null, .null, .null, .null, .null, .null, .null, .null, .null, .null, .null]))] (fun rv9 w9 => rv9 = none ∧ ∃ (h : Nat) (jj : Nat) (dd : Nat) (pp : Nat) (r1 : Nat) (a1 : Nat) (r2 : Nat) (a2 : Nat) (x2 : Nat) (r3 : Nat) (a3 : Nat) (r4 : Nat) (a4 : Nat) (x3 : Nat) (r5 : Nat) (a5 : Nat) (r6 : Nat) (a6 : Nat) (x4 : Nat) (a7 : Nat) (o2 : Nat) (g1 : Nat) (g2 : Nat) (g3 : Nat) (v3 : Nat) (w1 : Nat) (w2 : Nat) (w3 : Nat) (w4 : Nat) (w5 : Nat) (w6 : Nat) (w7 : Nat) (w8 : Nat) (o4 : Nat) (m1 : Nat) (m2 : Nat) (m3 : Nat) (m4 : Nat) (o9 : Nat) (y1 : Nat) (y2 : Nat) (o7 : Nat) (s1 : Nat) (b1 : Nat) (s2 : Nat) (b2 : Nat) (o0 : Nat) (t1 : Nat) (t2 : Nat) (t3 : Nat) (t4 : Nat) (t5 : Nat) (u1 : Nat) (u2 : Nat) (u3 : Nat) (u4 : Nat) (z1 : Nat) (z2 : Nat) (z3 : Nat) (z4 : Nat) (o1 : Nat) (d1 : Nat) (d2 : Nat), w9 = [(o, .inr (14, [.ref h, .ref pp, .ref x2, .ref x3, .ref x4, .ref o2, .ref o4, .ref o9, .ref o7, .ref o0, .ref o1])), (h, .inr (7, [.ref jj, .ref dd, .int (nI 0), .int (nI 0)])), (jj, aI k 36 (fun _ => 0)), (dd, aI k 6 (fun _ => 0)), (pp, .inr (10, [.ref h, .ref r1, .ref r2, .int 0])), (r1, .inr (12, [.ref a1])), (a1, aI k 6 (fun _ => 0)), (r2, .inr (12, [.ref a2])), (a2, aI k 6 (fun _ => 0)), (x2, .inr (10, [.ref h, .ref r3, .ref r4, .int 0])), (r3, .inr (12, [.ref a3])), (a3, aI k 6 (fun _ => 0)), (r4, .inr (12, [.ref a4])), (a4, aI k 6 (fun _ => 0)), (x3, .inr (10, [.ref h, .ref r5, .ref r6, .int 0])), (r5, .inr (12, [.ref a5])), (a5, aI k 6 (fun _ => 0)), (r6, .inr (12, [.ref a6])), (a6, aI k 6 (fun _ => 0)), (x4, .inr (12, [.ref a7])), (a7, aI k 6 (fun _ => 0)), (o2, .inr (6, [.ref h, .ref g1, .ref g2, .ref g3])), (g3, .inr (12, [.ref v3])), (v3, aI k 6 (fun _ => 0)), (g1, .inr (10, [.ref h, .ref w1, .ref w3, .int 0])), (w1, .inr (12, [.ref w2])), (w2, aI k 6 (fun _ => 0)), (w3, .inr (12, [.ref w4])), (w4, aI k 6 (fun _ => 0)), (g2, .inr (10, [.ref h, .ref w5, .ref w7, .int 0])), (w5, .inr (12, [.ref w6])), (w6, aI k 6 (fun _ => 0)), (w7, .inr (12, [.ref w8])), (w8, aI k 6 (fun _ => 0)), (o4, .inr (8, [.ref h, .ref m1, .ref m2])), (m1, .inr (9, [.ref m3])), (m3, aJ k 25 (fun _ => 0)), (m2, .inr (12, [.ref m4])), (m4, aI k 6 (fun _ => 0)), (o9, .inr (13, [.ref y1])), (y1, .inr (12, [.ref y2])), (y2, aI k 252 (fun _ => 0)), (o7, .inr (11, [.ref h, .ref s1, .ref s2])), (s1, .inr (12, [.ref b1])), (b1, aI k 6 (fun _ => 0)), (s2, .inr (12, [.ref b2])), (b2, aI k 6 (fun _ => 0)), (o0, .inr (4, [.ref h, .ref o2, .ref t1, .ref t2, .ref t3, .ref t4, .ref t5])), (t1, .inr (12, [.ref u1])), (u1, aI k 6 (fun _ => 0)), (t2, .inr (12, [.ref u2])), (u2, aI k 6 (fun _ => 0)), (t3, .inr (12, [.ref u3])), (u3, aI k 6 (fun _ => 0)), (t4, .inr (12, [.ref u4])), (u4, aI k 6 (fun _ => 0)), (t5, .inr (10, [.ref h, .ref z1, .ref z3, .int 0])), (z1, .inr (12, [.ref z2])), (z2, aI k 6 (fun _ => 0)), (z3, .inr (12, [.ref z4])), (z4, aI k 6 (fun _ => 0)), (o1, .inr (5, [.ref d1, .int 0])), (d1, .inr (12, [.ref d2])), (d2, aI k 81 (fun _ => 0))]) 63 728 63 := by
  refine CM.of (lv0 := [(0, .ref o)]) (by decide +kernel) (Nat.le_of_ble_eq_true rfl) rfl ?_
  intro p e s m below meth c C hr hlk hin had
  refine g_aload_n (pc := 0) C 0 rfl rfl dX10_init_0 ?_
  refine g_obj (pc := 1) C q_132 q_2 q_3 (Nat.le_of_ble_eq_true rfl) (Nat.le_of_ble_eq_true rfl) dX10_init_1 ?_
  refine g_new (pc := 4) (ci := 7) (cells := 0) (slots := 0) (g := 0) C [.null, .null, .int 0, .int 0] (T := TX3) inX3 tyX3 tyX3_ok q_134 q_133 q_16 rfl (fun j hj => by rcases (show j = 0 ∨ j = 1 ∨ j = 2 ∨ j = 3 by omega) with rfl | rfl | rfl | rfl <;> rfl) (Nat.le_of_ble_eq_true rfl) (Nat.le_of_ble_eq_true rfl) dX10_init_4 (fun q1 => ?_)
  refine G.eqw (ws' := [(o, .inr (14, [.null, .null, .null, .null, .null, .null, .null, .null, .null, .null, .null])), (q1, .inr (7, [.null, .null, .int 0, .int 0]))]) rfl ?_
  refine g_dup (pc := 7) C rfl dX10_init_7 ?_
  refine g_callIN (pc := 8) (cells := 1) (slots := 4) (g := 1) (As := []) (st := [.ref q1]) C (nA := 0) rfl (c_X3_init q1 ) (host := "Chipfold") (by decide +kernel) q_136 q_16 q_135 rfl rfl (by decide +kernel) dX10_init_8 ⟨Nat.le_of_ble_eq_true rfl, Nat.le_of_ble_eq_true rfl⟩ [1] [0] rfl (wr := [(o, .inr (14, [.null, .null, .null, .null, .null, .null, .null, .null, .null, .null, .null]))]) rfl (by decide) (by decide) (by decide) (Nat.le_of_ble_eq_true rfl) ⟨Nat.le_of_ble_eq_true rfl, Nat.le_of_ble_eq_true rfl⟩ (fun rv w1 h1 => ?_)
  obtain ⟨rfl, q2, q3, rfl⟩ := h1
  refine G.aft [0, 1, 2, 3] (ws' := [(o, .inr (14, [.null, .null, .null, .null, .null, .null, .null, .null, .null, .null, .null])), (q1, .inr (7, [.ref q2, .ref q3, .int (nI 0), .int (nI 0)])), (q2, aI k 36 (fun _ => 0)), (q3, aI k 6 (fun _ => 0))]) (st' := [.ref q1]) (cells' := 3) (slots' := 46) (g' := 3) (by decide) rfl rfl rfl rfl rfl ?_
  refine g_astore_n (pc := 11) C [(1, .ref q1), (0, .ref o)] rfl dX10_init_11 (by decide) rfl ?_
  refine g_new (pc := 12) (ci := 6) (cells := 3) (slots := 46) (g := 3) C [.null, .null, .null, .null] (T := TX2) inX2 tyX2 tyX2_ok q_138 q_137 q_139 rfl (fun j hj => by rcases (show j = 0 ∨ j = 1 ∨ j = 2 ∨ j = 3 by omega) with rfl | rfl | rfl | rfl <;> rfl) (Nat.le_of_ble_eq_true rfl) (Nat.le_of_ble_eq_true rfl) dX10_init_12 (fun q4 => ?_)
  refine G.eqw (ws' := [(o, .inr (14, [.null, .null, .null, .null, .null, .null, .null, .null, .null, .null, .null])), (q1, .inr (7, [.ref q2, .ref q3, .int (nI 0), .int (nI 0)])), (q2, aI k 36 (fun _ => 0)), (q3, aI k 6 (fun _ => 0)), (q4, .inr (6, [.null, .null, .null, .null]))]) rfl ?_
  refine g_dup (pc := 15) C rfl dX10_init_15 ?_
  refine g_aload_n (pc := 16) C 0 rfl rfl dX10_init_16 ?_
  refine g_callI (pc := 17) (cells := 4) (slots := 50) (g := 4) (As := [.ref q1]) (st := [.ref q4]) C (nA := 1) rfl (c_X2_init q4 q1 ) q_141 q_142 q_139 q_140 rfl rfl (by decide +kernel) dX10_init_17 ⟨Nat.le_of_ble_eq_true rfl, Nat.le_of_ble_eq_true rfl⟩ [4] [0, 1, 2, 3] rfl (wr := [(o, .inr (14, [.null, .null, .null, .null, .null, .null, .null, .null, .null, .null, .null])), (q1, .inr (7, [.ref q2, .ref q3, .int (nI 0), .int (nI 0)])), (q2, aI k 36 (fun _ => 0)), (q3, aI k 6 (fun _ => 0))]) rfl (by decide) (by decide) (by decide) (Nat.le_of_ble_eq_true rfl) ⟨Nat.le_of_ble_eq_true rfl, Nat.le_of_ble_eq_true rfl⟩ (fun rv w1 h1 => ?_)
  obtain ⟨rfl, q5, q6, q7, q8, q9, q10, q11, q12, q13, q14, q15, q16, rfl⟩ := h1
  refine G.aft [0, 1, 2, 3, 4, 5, 6, 7, 8, 9, 10, 11, 12, 13, 14, 15, 16] (ws' := [(o, .inr (14, [.null, .null, .null, .null, .null, .null, .null, .null, .null, .null, .null])), (q1, .inr (7, [.ref q2, .ref q3, .int (nI 0), .int (nI 0)])), (q2, aI k 36 (fun _ => 0)), (q3, aI k 6 (fun _ => 0)), (q4, .inr (6, [.ref q1, .ref q5, .ref q6, .ref q7])), (q7, .inr (12, [.ref q8])), (q8, aI k 6 (fun _ => 0)), (q5, .inr (10, [.ref q1, .ref q9, .ref q11, .int 0])), (q9, .inr (12, [.ref q10])), (q10, aI k 6 (fun _ => 0)), (q11, .inr (12, [.ref q12])), (q12, aI k 6 (fun _ => 0)), (q6, .inr (10, [.ref q1, .ref q13, .ref q15, .int 0])), (q13, .inr (12, [.ref q14])), (q14, aI k 6 (fun _ => 0)), (q15, .inr (12, [.ref q16])), (q16, aI k 6 (fun _ => 0))]) (st' := [.ref q4]) (cells' := 16) (slots' := 93) (g' := 16) (by decide) rfl rfl rfl rfl rfl ?_
  refine g_astore_n (pc := 20) C [(2, .ref q4), (1, .ref q1), (0, .ref o)] rfl dX10_init_20 (by decide) rfl ?_
  refine g_aload_n (pc := 21) C 2 rfl rfl dX10_init_21 ?_
  refine g_aload_n (pc := 22) C 1 rfl rfl dX10_init_22 ?_
  refine g_putF (pc := 23) C (T := TX10) inX10 0 rfl rfl 0 (by decide) q_143 rfl tyX10 tyX10_ok nmX10 rfl hin rfl [(o, .inr (14, [.ref q1, .null, .null, .null, .null, .null, .null, .null, .null, .null, .null])), (q1, .inr (7, [.ref q2, .ref q3, .int (nI 0), .int (nI 0)])), (q2, aI k 36 (fun _ => 0)), (q3, aI k 6 (fun _ => 0)), (q4, .inr (6, [.ref q1, .ref q5, .ref q6, .ref q7])), (q7, .inr (12, [.ref q8])), (q8, aI k 6 (fun _ => 0)), (q5, .inr (10, [.ref q1, .ref q9, .ref q11, .int 0])), (q9, .inr (12, [.ref q10])), (q10, aI k 6 (fun _ => 0)), (q11, .inr (12, [.ref q12])), (q12, aI k 6 (fun _ => 0)), (q6, .inr (10, [.ref q1, .ref q13, .ref q15, .int 0])), (q13, .inr (12, [.ref q14])), (q14, aI k 6 (fun _ => 0)), (q15, .inr (12, [.ref q16])), (q16, aI k 6 (fun _ => 0))] (tyX10_ok 0 (by decide)) rfl rfl (Nat.le_of_ble_eq_true rfl) rfl dX10_init_23 ?_
  refine g_aload_n (pc := 26) C 2 rfl rfl dX10_init_26 ?_
  refine g_aload_n (pc := 27) C 0 rfl rfl dX10_init_27 ?_
  refine g_putF (pc := 28) C (T := TX10) inX10 0 rfl rfl 5 (by decide) q_144 rfl tyX10 tyX10_ok nmX10 rfl hin rfl [(o, .inr (14, [.ref q1, .null, .null, .null, .null, .ref q4, .null, .null, .null, .null, .null])), (q1, .inr (7, [.ref q2, .ref q3, .int (nI 0), .int (nI 0)])), (q2, aI k 36 (fun _ => 0)), (q3, aI k 6 (fun _ => 0)), (q4, .inr (6, [.ref q1, .ref q5, .ref q6, .ref q7])), (q7, .inr (12, [.ref q8])), (q8, aI k 6 (fun _ => 0)), (q5, .inr (10, [.ref q1, .ref q9, .ref q11, .int 0])), (q9, .inr (12, [.ref q10])), (q10, aI k 6 (fun _ => 0)), (q11, .inr (12, [.ref q12])), (q12, aI k 6 (fun _ => 0)), (q6, .inr (10, [.ref q1, .ref q13, .ref q15, .int 0])), (q13, .inr (12, [.ref q14])), (q14, aI k 6 (fun _ => 0)), (q15, .inr (12, [.ref q16])), (q16, aI k 6 (fun _ => 0))] (tyX10_ok 5 (by decide)) rfl rfl (Nat.le_of_ble_eq_true rfl) rfl dX10_init_28 ?_
  refine g_aload_n (pc := 31) C 2 rfl rfl dX10_init_31 ?_
  refine g_new (pc := 32) (ci := 10) (cells := 16) (slots := 93) (g := 16) C [.null, .null, .null, .int 0] (T := TX6) inX6 tyX6 tyX6_ok q_145 q_94 q_43 rfl (fun j hj => by rcases (show j = 0 ∨ j = 1 ∨ j = 2 ∨ j = 3 by omega) with rfl | rfl | rfl | rfl <;> rfl) (Nat.le_of_ble_eq_true rfl) (Nat.le_of_ble_eq_true rfl) dX10_init_32 (fun q17 => ?_)
  refine G.eqw (ws' := [(o, .inr (14, [.ref q1, .null, .null, .null, .null, .ref q4, .null, .null, .null, .null, .null])), (q1, .inr (7, [.ref q2, .ref q3, .int (nI 0), .int (nI 0)])), (q2, aI k 36 (fun _ => 0)), (q3, aI k 6 (fun _ => 0)), (q4, .inr (6, [.ref q1, .ref q5, .ref q6, .ref q7])), (q7, .inr (12, [.ref q8])), (q8, aI k 6 (fun _ => 0)), (q5, .inr (10, [.ref q1, .ref q9, .ref q11, .int 0])), (q9, .inr (12, [.ref q10])), (q10, aI k 6 (fun _ => 0)), (q11, .inr (12, [.ref q12])), (q12, aI k 6 (fun _ => 0)), (q6, .inr (10, [.ref q1, .ref q13, .ref q15, .int 0])), (q13, .inr (12, [.ref q14])), (q14, aI k 6 (fun _ => 0)), (q15, .inr (12, [.ref q16])), (q16, aI k 6 (fun _ => 0)), (q17, .inr (10, [.null, .null, .null, .int 0]))]) rfl ?_
  refine g_dup (pc := 35) C rfl dX10_init_35 ?_
  refine g_aload_n (pc := 36) C 1 rfl rfl dX10_init_36 ?_
  refine g_callI (pc := 37) (cells := 17) (slots := 97) (g := 17) (As := [.ref q1]) (st := [.ref q17, .ref o]) C (nA := 1) rfl (c_X6_init q17 q1 ) q_146 q_98 q_43 q_96 rfl rfl (by decide +kernel) dX10_init_37 ⟨Nat.le_of_ble_eq_true rfl, Nat.le_of_ble_eq_true rfl⟩ [17] [0, 1, 2, 3, 4, 5, 6, 7, 8, 9, 10, 11, 12, 13, 14, 15, 16] rfl (wr := [(o, .inr (14, [.ref q1, .null, .null, .null, .null, .ref q4, .null, .null, .null, .null, .null])), (q1, .inr (7, [.ref q2, .ref q3, .int (nI 0), .int (nI 0)])), (q2, aI k 36 (fun _ => 0)), (q3, aI k 6 (fun _ => 0)), (q4, .inr (6, [.ref q1, .ref q5, .ref q6, .ref q7])), (q7, .inr (12, [.ref q8])), (q8, aI k 6 (fun _ => 0)), (q5, .inr (10, [.ref q1, .ref q9, .ref q11, .int 0])), (q9, .inr (12, [.ref q10])), (q10, aI k 6 (fun _ => 0)), (q11, .inr (12, [.ref q12])), (q12, aI k 6 (fun _ => 0)), (q6, .inr (10, [.ref q1, .ref q13, .ref q15, .int 0])), (q13, .inr (12, [.ref q14])), (q14, aI k 6 (fun _ => 0)), (q15, .inr (12, [.ref q16])), (q16, aI k 6 (fun _ => 0))]) rfl (by decide) (by decide) (by decide) (Nat.le_of_ble_eq_true rfl) ⟨Nat.le_of_ble_eq_true rfl, Nat.le_of_ble_eq_true rfl⟩ (fun rv w1 h1 => ?_)
  obtain ⟨rfl, q18, q19, q20, q21, rfl⟩ := h1
  refine G.aft [0, 1, 2, 3, 4, 5, 6, 7, 8, 9, 10, 11, 12, 13, 14, 15, 16, 17, 18, 19, 20, 21] (ws' := [(o, .inr (14, [.ref q1, .null, .null, .null, .null, .ref q4, .null, .null, .null, .null, .null])), (q1, .inr (7, [.ref q2, .ref q3, .int (nI 0), .int (nI 0)])), (q2, aI k 36 (fun _ => 0)), (q3, aI k 6 (fun _ => 0)), (q4, .inr (6, [.ref q1, .ref q5, .ref q6, .ref q7])), (q7, .inr (12, [.ref q8])), (q8, aI k 6 (fun _ => 0)), (q5, .inr (10, [.ref q1, .ref q9, .ref q11, .int 0])), (q9, .inr (12, [.ref q10])), (q10, aI k 6 (fun _ => 0)), (q11, .inr (12, [.ref q12])), (q12, aI k 6 (fun _ => 0)), (q6, .inr (10, [.ref q1, .ref q13, .ref q15, .int 0])), (q13, .inr (12, [.ref q14])), (q14, aI k 6 (fun _ => 0)), (q15, .inr (12, [.ref q16])), (q16, aI k 6 (fun _ => 0)), (q17, .inr (10, [.ref q1, .ref q18, .ref q20, .int 0])), (q18, .inr (12, [.ref q19])), (q19, aI k 6 (fun _ => 0)), (q20, .inr (12, [.ref q21])), (q21, aI k 6 (fun _ => 0))]) (st' := [.ref q17, .ref o]) (cells' := 21) (slots' := 111) (g' := 21) (by decide) rfl rfl rfl rfl rfl ?_
  refine g_putF (pc := 40) C (T := TX10) inX10 0 rfl rfl 1 (by decide) q_147 rfl tyX10 tyX10_ok nmX10 rfl hin rfl [(o, .inr (14, [.ref q1, .ref q17, .null, .null, .null, .ref q4, .null, .null, .null, .null, .null])), (q1, .inr (7, [.ref q2, .ref q3, .int (nI 0), .int (nI 0)])), (q2, aI k 36 (fun _ => 0)), (q3, aI k 6 (fun _ => 0)), (q4, .inr (6, [.ref q1, .ref q5, .ref q6, .ref q7])), (q7, .inr (12, [.ref q8])), (q8, aI k 6 (fun _ => 0)), (q5, .inr (10, [.ref q1, .ref q9, .ref q11, .int 0])), (q9, .inr (12, [.ref q10])), (q10, aI k 6 (fun _ => 0)), (q11, .inr (12, [.ref q12])), (q12, aI k 6 (fun _ => 0)), (q6, .inr (10, [.ref q1, .ref q13, .ref q15, .int 0])), (q13, .inr (12, [.ref q14])), (q14, aI k 6 (fun _ => 0)), (q15, .inr (12, [.ref q16])), (q16, aI k 6 (fun _ => 0)), (q17, .inr (10, [.ref q1, .ref q18, .ref q20, .int 0])), (q18, .inr (12, [.ref q19])), (q19, aI k 6 (fun _ => 0)), (q20, .inr (12, [.ref q21])), (q21, aI k 6 (fun _ => 0))] (tyX10_ok 1 (by decide)) rfl rfl (Nat.le_of_ble_eq_true rfl) rfl dX10_init_40 ?_
  refine g_aload_n (pc := 43) C 2 rfl rfl dX10_init_43 ?_
  refine g_new (pc := 44) (ci := 10) (cells := 21) (slots := 111) (g := 21) C [.null, .null, .null, .int 0] (T := TX6) inX6 tyX6 tyX6_ok q_145 q_94 q_43 rfl (fun j hj => by rcases (show j = 0 ∨ j = 1 ∨ j = 2 ∨ j = 3 by omega) with rfl | rfl | rfl | rfl <;> rfl) (Nat.le_of_ble_eq_true rfl) (Nat.le_of_ble_eq_true rfl) dX10_init_44 (fun q22 => ?_)
  refine G.eqw (ws' := [(o, .inr (14, [.ref q1, .ref q17, .null, .null, .null, .ref q4, .null, .null, .null, .null, .null])), (q1, .inr (7, [.ref q2, .ref q3, .int (nI 0), .int (nI 0)])), (q2, aI k 36 (fun _ => 0)), (q3, aI k 6 (fun _ => 0)), (q4, .inr (6, [.ref q1, .ref q5, .ref q6, .ref q7])), (q7, .inr (12, [.ref q8])), (q8, aI k 6 (fun _ => 0)), (q5, .inr (10, [.ref q1, .ref q9, .ref q11, .int 0])), (q9, .inr (12, [.ref q10])), (q10, aI k 6 (fun _ => 0)), (q11, .inr (12, [.ref q12])), (q12, aI k 6 (fun _ => 0)), (q6, .inr (10, [.ref q1, .ref q13, .ref q15, .int 0])), (q13, .inr (12, [.ref q14])), (q14, aI k 6 (fun _ => 0)), (q15, .inr (12, [.ref q16])), (q16, aI k 6 (fun _ => 0)), (q17, .inr (10, [.ref q1, .ref q18, .ref q20, .int 0])), (q18, .inr (12, [.ref q19])), (q19, aI k 6 (fun _ => 0)), (q20, .inr (12, [.ref q21])), (q21, aI k 6 (fun _ => 0)), (q22, .inr (10, [.null, .null, .null, .int 0]))]) rfl ?_
  refine g_dup (pc := 47) C rfl dX10_init_47 ?_
  refine g_aload_n (pc := 48) C 1 rfl rfl dX10_init_48 ?_
  refine g_callI (pc := 49) (cells := 22) (slots := 115) (g := 22) (As := [.ref q1]) (st := [.ref q22, .ref o]) C (nA := 1) rfl (c_X6_init q22 q1 ) q_146 q_98 q_43 q_96 rfl rfl (by decide +kernel) dX10_init_49 ⟨Nat.le_of_ble_eq_true rfl, Nat.le_of_ble_eq_true rfl⟩ [22] [0, 1, 2, 3, 4, 5, 6, 7, 8, 9, 10, 11, 12, 13, 14, 15, 16, 17, 18, 19, 20, 21] rfl (wr := [(o, .inr (14, [.ref q1, .ref q17, .null, .null, .null, .ref q4, .null, .null, .null, .null, .null])), (q1, .inr (7, [.ref q2, .ref q3, .int (nI 0), .int (nI 0)])), (q2, aI k 36 (fun _ => 0)), (q3, aI k 6 (fun _ => 0)), (q4, .inr (6, [.ref q1, .ref q5, .ref q6, .ref q7])), (q7, .inr (12, [.ref q8])), (q8, aI k 6 (fun _ => 0)), (q5, .inr (10, [.ref q1, .ref q9, .ref q11, .int 0])), (q9, .inr (12, [.ref q10])), (q10, aI k 6 (fun _ => 0)), (q11, .inr (12, [.ref q12])), (q12, aI k 6 (fun _ => 0)), (q6, .inr (10, [.ref q1, .ref q13, .ref q15, .int 0])), (q13, .inr (12, [.ref q14])), (q14, aI k 6 (fun _ => 0)), (q15, .inr (12, [.ref q16])), (q16, aI k 6 (fun _ => 0)), (q17, .inr (10, [.ref q1, .ref q18, .ref q20, .int 0])), (q18, .inr (12, [.ref q19])), (q19, aI k 6 (fun _ => 0)), (q20, .inr (12, [.ref q21])), (q21, aI k 6 (fun _ => 0))]) rfl (by decide) (by decide) (by decide) (Nat.le_of_ble_eq_true rfl) ⟨Nat.le_of_ble_eq_true rfl, Nat.le_of_ble_eq_true rfl⟩ (fun rv w1 h1 => ?_)
  obtain ⟨rfl, q23, q24, q25, q26, rfl⟩ := h1
  refine G.aft [0, 1, 2, 3, 4, 5, 6, 7, 8, 9, 10, 11, 12, 13, 14, 15, 16, 17, 18, 19, 20, 21, 22, 23, 24, 25, 26] (ws' := [(o, .inr (14, [.ref q1, .ref q17, .null, .null, .null, .ref q4, .null, .null, .null, .null, .null])), (q1, .inr (7, [.ref q2, .ref q3, .int (nI 0), .int (nI 0)])), (q2, aI k 36 (fun _ => 0)), (q3, aI k 6 (fun _ => 0)), (q4, .inr (6, [.ref q1, .ref q5, .ref q6, .ref q7])), (q7, .inr (12, [.ref q8])), (q8, aI k 6 (fun _ => 0)), (q5, .inr (10, [.ref q1, .ref q9, .ref q11, .int 0])), (q9, .inr (12, [.ref q10])), (q10, aI k 6 (fun _ => 0)), (q11, .inr (12, [.ref q12])), (q12, aI k 6 (fun _ => 0)), (q6, .inr (10, [.ref q1, .ref q13, .ref q15, .int 0])), (q13, .inr (12, [.ref q14])), (q14, aI k 6 (fun _ => 0)), (q15, .inr (12, [.ref q16])), (q16, aI k 6 (fun _ => 0)), (q17, .inr (10, [.ref q1, .ref q18, .ref q20, .int 0])), (q18, .inr (12, [.ref q19])), (q19, aI k 6 (fun _ => 0)), (q20, .inr (12, [.ref q21])), (q21, aI k 6 (fun _ => 0)), (q22, .inr (10, [.ref q1, .ref q23, .ref q25, .int 0])), (q23, .inr (12, [.ref q24])), (q24, aI k 6 (fun _ => 0)), (q25, .inr (12, [.ref q26])), (q26, aI k 6 (fun _ => 0))]) (st' := [.ref q22, .ref o]) (cells' := 26) (slots' := 129) (g' := 26) (by decide) rfl rfl rfl rfl rfl ?_
  refine g_putF (pc := 52) C (T := TX10) inX10 0 rfl rfl 2 (by decide) q_148 rfl tyX10 tyX10_ok nmX10 rfl hin rfl [(o, .inr (14, [.ref q1, .ref q17, .ref q22, .null, .null, .ref q4, .null, .null, .null, .null, .null])), (q1, .inr (7, [.ref q2, .ref q3, .int (nI 0), .int (nI 0)])), (q2, aI k 36 (fun _ => 0)), (q3, aI k 6 (fun _ => 0)), (q4, .inr (6, [.ref q1, .ref q5, .ref q6, .ref q7])), (q7, .inr (12, [.ref q8])), (q8, aI k 6 (fun _ => 0)), (q5, .inr (10, [.ref q1, .ref q9, .ref q11, .int 0])), (q9, .inr (12, [.ref q10])), (q10, aI k 6 (fun _ => 0)), (q11, .inr (12, [.ref q12])), (q12, aI k 6 (fun _ => 0)), (q6, .inr (10, [.ref q1, .ref q13, .ref q15, .int 0])), (q13, .inr (12, [.ref q14])), (q14, aI k 6 (fun _ => 0)), (q15, .inr (12, [.ref q16])), (q16, aI k 6 (fun _ => 0)), (q17, .inr (10, [.ref q1, .ref q18, .ref q20, .int 0])), (q18, .inr (12, [.ref q19])), (q19, aI k 6 (fun _ => 0)), (q20, .inr (12, [.ref q21])), (q21, aI k 6 (fun _ => 0)), (q22, .inr (10, [.ref q1, .ref q23, .ref q25, .int 0])), (q23, .inr (12, [.ref q24])), (q24, aI k 6 (fun _ => 0)), (q25, .inr (12, [.ref q26])), (q26, aI k 6 (fun _ => 0))] (tyX10_ok 2 (by decide)) rfl rfl (Nat.le_of_ble_eq_true rfl) rfl dX10_init_52 ?_
  refine g_aload_n (pc := 55) C 2 rfl rfl dX10_init_55 ?_
  refine g_new (pc := 56) (ci := 10) (cells := 26) (slots := 129) (g := 26) C [.null, .null, .null, .int 0] (T := TX6) inX6 tyX6 tyX6_ok q_145 q_94 q_43 rfl (fun j hj => by rcases (show j = 0 ∨ j = 1 ∨ j = 2 ∨ j = 3 by omega) with rfl | rfl | rfl | rfl <;> rfl) (Nat.le_of_ble_eq_true rfl) (Nat.le_of_ble_eq_true rfl) dX10_init_56 (fun q27 => ?_)
  refine G.eqw (ws' := [(o, .inr (14, [.ref q1, .ref q17, .ref q22, .null, .null, .ref q4, .null, .null, .null, .null, .null])), (q1, .inr (7, [.ref q2, .ref q3, .int (nI 0), .int (nI 0)])), (q2, aI k 36 (fun _ => 0)), (q3, aI k 6 (fun _ => 0)), (q4, .inr (6, [.ref q1, .ref q5, .ref q6, .ref q7])), (q7, .inr (12, [.ref q8])), (q8, aI k 6 (fun _ => 0)), (q5, .inr (10, [.ref q1, .ref q9, .ref q11, .int 0])), (q9, .inr (12, [.ref q10])), (q10, aI k 6 (fun _ => 0)), (q11, .inr (12, [.ref q12])), (q12, aI k 6 (fun _ => 0)), (q6, .inr (10, [.ref q1, .ref q13, .ref q15, .int 0])), (q13, .inr (12, [.ref q14])), (q14, aI k 6 (fun _ => 0)), (q15, .inr (12, [.ref q16])), (q16, aI k 6 (fun _ => 0)), (q17, .inr (10, [.ref q1, .ref q18, .ref q20, .int 0])), (q18, .inr (12, [.ref q19])), (q19, aI k 6 (fun _ => 0)), (q20, .inr (12, [.ref q21])), (q21, aI k 6 (fun _ => 0)), (q22, .inr (10, [.ref q1, .ref q23, .ref q25, .int 0])), (q23, .inr (12, [.ref q24])), (q24, aI k 6 (fun _ => 0)), (q25, .inr (12, [.ref q26])), (q26, aI k 6 (fun _ => 0)), (q27, .inr (10, [.null, .null, .null, .int 0]))]) rfl ?_
  refine g_dup (pc := 59) C rfl dX10_init_59 ?_
  refine g_aload_n (pc := 60) C 1 rfl rfl dX10_init_60 ?_
  refine g_callI (pc := 61) (cells := 27) (slots := 133) (g := 27) (As := [.ref q1]) (st := [.ref q27, .ref o]) C (nA := 1) rfl (c_X6_init q27 q1 ) q_146 q_98 q_43 q_96 rfl rfl (by decide +kernel) dX10_init_61 ⟨Nat.le_of_ble_eq_true rfl, Nat.le_of_ble_eq_true rfl⟩ [27] [0, 1, 2, 3, 4, 5, 6, 7, 8, 9, 10, 11, 12, 13, 14, 15, 16, 17, 18, 19, 20, 21, 22, 23, 24, 25, 26] rfl (wr := [(o, .inr (14, [.ref q1, .ref q17, .ref q22, .null, .null, .ref q4, .null, .null, .null, .null, .null])), (q1, .inr (7, [.ref q2, .ref q3, .int (nI 0), .int (nI 0)])), (q2, aI k 36 (fun _ => 0)), (q3, aI k 6 (fun _ => 0)), (q4, .inr (6, [.ref q1, .ref q5, .ref q6, .ref q7])), (q7, .inr (12, [.ref q8])), (q8, aI k 6 (fun _ => 0)), (q5, .inr (10, [.ref q1, .ref q9, .ref q11, .int 0])), (q9, .inr (12, [.ref q10])), (q10, aI k 6 (fun _ => 0)), (q11, .inr (12, [.ref q12])), (q12, aI k 6 (fun _ => 0)), (q6, .inr (10, [.ref q1, .ref q13, .ref q15, .int 0])), (q13, .inr (12, [.ref q14])), (q14, aI k 6 (fun _ => 0)), (q15, .inr (12, [.ref q16])), (q16, aI k 6 (fun _ => 0)), (q17, .inr (10, [.ref q1, .ref q18, .ref q20, .int 0])), (q18, .inr (12, [.ref q19])), (q19, aI k 6 (fun _ => 0)), (q20, .inr (12, [.ref q21])), (q21, aI k 6 (fun _ => 0)), (q22, .inr (10, [.ref q1, .ref q23, .ref q25, .int 0])), (q23, .inr (12, [.ref q24])), (q24, aI k 6 (fun _ => 0)), (q25, .inr (12, [.ref q26])), (q26, aI k 6 (fun _ => 0))]) rfl (by decide) (by decide) (by decide) (Nat.le_of_ble_eq_true rfl) ⟨Nat.le_of_ble_eq_true rfl, Nat.le_of_ble_eq_true rfl⟩ (fun rv w1 h1 => ?_)
  obtain ⟨rfl, q28, q29, q30, q31, rfl⟩ := h1
  refine G.aft [0, 1, 2, 3, 4, 5, 6, 7, 8, 9, 10, 11, 12, 13, 14, 15, 16, 17, 18, 19, 20, 21, 22, 23, 24, 25, 26, 27, 28, 29, 30, 31] (ws' := [(o, .inr (14, [.ref q1, .ref q17, .ref q22, .null, .null, .ref q4, .null, .null, .null, .null, .null])), (q1, .inr (7, [.ref q2, .ref q3, .int (nI 0), .int (nI 0)])), (q2, aI k 36 (fun _ => 0)), (q3, aI k 6 (fun _ => 0)), (q4, .inr (6, [.ref q1, .ref q5, .ref q6, .ref q7])), (q7, .inr (12, [.ref q8])), (q8, aI k 6 (fun _ => 0)), (q5, .inr (10, [.ref q1, .ref q9, .ref q11, .int 0])), (q9, .inr (12, [.ref q10])), (q10, aI k 6 (fun _ => 0)), (q11, .inr (12, [.ref q12])), (q12, aI k 6 (fun _ => 0)), (q6, .inr (10, [.ref q1, .ref q13, .ref q15, .int 0])), (q13, .inr (12, [.ref q14])), (q14, aI k 6 (fun _ => 0)), (q15, .inr (12, [.ref q16])), (q16, aI k 6 (fun _ => 0)), (q17, .inr (10, [.ref q1, .ref q18, .ref q20, .int 0])), (q18, .inr (12, [.ref q19])), (q19, aI k 6 (fun _ => 0)), (q20, .inr (12, [.ref q21])), (q21, aI k 6 (fun _ => 0)), (q22, .inr (10, [.ref q1, .ref q23, .ref q25, .int 0])), (q23, .inr (12, [.ref q24])), (q24, aI k 6 (fun _ => 0)), (q25, .inr (12, [.ref q26])), (q26, aI k 6 (fun _ => 0)), (q27, .inr (10, [.ref q1, .ref q28, .ref q30, .int 0])), (q28, .inr (12, [.ref q29])), (q29, aI k 6 (fun _ => 0)), (q30, .inr (12, [.ref q31])), (q31, aI k 6 (fun _ => 0))]) (st' := [.ref q27, .ref o]) (cells' := 31) (slots' := 147) (g' := 31) (by decide) rfl rfl rfl rfl rfl ?_
  refine g_putF (pc := 64) C (T := TX10) inX10 0 rfl rfl 3 (by decide) q_149 rfl tyX10 tyX10_ok nmX10 rfl hin rfl [(o, .inr (14, [.ref q1, .ref q17, .ref q22, .ref q27, .null, .ref q4, .null, .null, .null, .null, .null])), (q1, .inr (7, [.ref q2, .ref q3, .int (nI 0), .int (nI 0)])), (q2, aI k 36 (fun _ => 0)), (q3, aI k 6 (fun _ => 0)), (q4, .inr (6, [.ref q1, .ref q5, .ref q6, .ref q7])), (q7, .inr (12, [.ref q8])), (q8, aI k 6 (fun _ => 0)), (q5, .inr (10, [.ref q1, .ref q9, .ref q11, .int 0])), (q9, .inr (12, [.ref q10])), (q10, aI k 6 (fun _ => 0)), (q11, .inr (12, [.ref q12])), (q12, aI k 6 (fun _ => 0)), (q6, .inr (10, [.ref q1, .ref q13, .ref q15, .int 0])), (q13, .inr (12, [.ref q14])), (q14, aI k 6 (fun _ => 0)), (q15, .inr (12, [.ref q16])), (q16, aI k 6 (fun _ => 0)), (q17, .inr (10, [.ref q1, .ref q18, .ref q20, .int 0])), (q18, .inr (12, [.ref q19])), (q19, aI k 6 (fun _ => 0)), (q20, .inr (12, [.ref q21])), (q21, aI k 6 (fun _ => 0)), (q22, .inr (10, [.ref q1, .ref q23, .ref q25, .int 0])), (q23, .inr (12, [.ref q24])), (q24, aI k 6 (fun _ => 0)), (q25, .inr (12, [.ref q26])), (q26, aI k 6 (fun _ => 0)), (q27, .inr (10, [.ref q1, .ref q28, .ref q30, .int 0])), (q28, .inr (12, [.ref q29])), (q29, aI k 6 (fun _ => 0)), (q30, .inr (12, [.ref q31])), (q31, aI k 6 (fun _ => 0))] (tyX10_ok 3 (by decide)) rfl rfl (Nat.le_of_ble_eq_true rfl) rfl dX10_init_64 ?_
  refine g_aload_n (pc := 67) C 2 rfl rfl dX10_init_67 ?_
  refine g_new (pc := 68) (ci := 12) (cells := 31) (slots := 147) (g := 31) C [.null] (T := TX8) inX8 tyX8 tyX8_ok q_150 q_29 q_6 rfl (fun j hj => by rcases (show j = 0 by omega) with rfl <;> rfl) (Nat.le_of_ble_eq_true rfl) (Nat.le_of_ble_eq_true rfl) dX10_init_68 (fun q32 => ?_)
  refine G.eqw (ws' := [(o, .inr (14, [.ref q1, .ref q17, .ref q22, .ref q27, .null, .ref q4, .null, .null, .null, .null, .null])), (q1, .inr (7, [.ref q2, .ref q3, .int (nI 0), .int (nI 0)])), (q2, aI k 36 (fun _ => 0)), (q3, aI k 6 (fun _ => 0)), (q4, .inr (6, [.ref q1, .ref q5, .ref q6, .ref q7])), (q7, .inr (12, [.ref q8])), (q8, aI k 6 (fun _ => 0)), (q5, .inr (10, [.ref q1, .ref q9, .ref q11, .int 0])), (q9, .inr (12, [.ref q10])), (q10, aI k 6 (fun _ => 0)), (q11, .inr (12, [.ref q12])), (q12, aI k 6 (fun _ => 0)), (q6, .inr (10, [.ref q1, .ref q13, .ref q15, .int 0])), (q13, .inr (12, [.ref q14])), (q14, aI k 6 (fun _ => 0)), (q15, .inr (12, [.ref q16])), (q16, aI k 6 (fun _ => 0)), (q17, .inr (10, [.ref q1, .ref q18, .ref q20, .int 0])), (q18, .inr (12, [.ref q19])), (q19, aI k 6 (fun _ => 0)), (q20, .inr (12, [.ref q21])), (q21, aI k 6 (fun _ => 0)), (q22, .inr (10, [.ref q1, .ref q23, .ref q25, .int 0])), (q23, .inr (12, [.ref q24])), (q24, aI k 6 (fun _ => 0)), (q25, .inr (12, [.ref q26])), (q26, aI k 6 (fun _ => 0)), (q27, .inr (10, [.ref q1, .ref q28, .ref q30, .int 0])), (q28, .inr (12, [.ref q29])), (q29, aI k 6 (fun _ => 0)), (q30, .inr (12, [.ref q31])), (q31, aI k 6 (fun _ => 0)), (q32, .inr (12, [.null]))]) rfl ?_
  refine g_dup (pc := 71) C rfl dX10_init_71 ?_
  refine g_bipush (pc := 72) (v := 6) C (by decide) dX10_init_72 ?_
  refine g_callI (pc := 74) (cells := 32) (slots := 148) (g := 32) (As := [.int 6]) (st := [.ref q32, .ref o]) C (nA := 1) rfl (c_X8_init_6 q32 ) q_151 q_33 q_6 q_31 rfl rfl (by decide +kernel) dX10_init_74 ⟨Nat.le_of_ble_eq_true rfl, Nat.le_of_ble_eq_true rfl⟩ [32] [0, 1, 2, 3, 4, 5, 6, 7, 8, 9, 10, 11, 12, 13, 14, 15, 16, 17, 18, 19, 20, 21, 22, 23, 24, 25, 26, 27, 28, 29, 30, 31] rfl (wr := [(o, .inr (14, [.ref q1, .ref q17, .ref q22, .ref q27, .null, .ref q4, .null, .null, .null, .null, .null])), (q1, .inr (7, [.ref q2, .ref q3, .int (nI 0), .int (nI 0)])), (q2, aI k 36 (fun _ => 0)), (q3, aI k 6 (fun _ => 0)), (q4, .inr (6, [.ref q1, .ref q5, .ref q6, .ref q7])), (q7, .inr (12, [.ref q8])), (q8, aI k 6 (fun _ => 0)), (q5, .inr (10, [.ref q1, .ref q9, .ref q11, .int 0])), (q9, .inr (12, [.ref q10])), (q10, aI k 6 (fun _ => 0)), (q11, .inr (12, [.ref q12])), (q12, aI k 6 (fun _ => 0)), (q6, .inr (10, [.ref q1, .ref q13, .ref q15, .int 0])), (q13, .inr (12, [.ref q14])), (q14, aI k 6 (fun _ => 0)), (q15, .inr (12, [.ref q16])), (q16, aI k 6 (fun _ => 0)), (q17, .inr (10, [.ref q1, .ref q18, .ref q20, .int 0])), (q18, .inr (12, [.ref q19])), (q19, aI k 6 (fun _ => 0)), (q20, .inr (12, [.ref q21])), (q21, aI k 6 (fun _ => 0)), (q22, .inr (10, [.ref q1, .ref q23, .ref q25, .int 0])), (q23, .inr (12, [.ref q24])), (q24, aI k 6 (fun _ => 0)), (q25, .inr (12, [.ref q26])), (q26, aI k 6 (fun _ => 0)), (q27, .inr (10, [.ref q1, .ref q28, .ref q30, .int 0])), (q28, .inr (12, [.ref q29])), (q29, aI k 6 (fun _ => 0)), (q30, .inr (12, [.ref q31])), (q31, aI k 6 (fun _ => 0))]) rfl (by decide) (by decide) (by decide) (Nat.le_of_ble_eq_true rfl) ⟨Nat.le_of_ble_eq_true rfl, Nat.le_of_ble_eq_true rfl⟩ (fun rv w1 h1 => ?_)
  obtain ⟨rfl, q33, rfl⟩ := h1
  refine G.aft [0, 1, 2, 3, 4, 5, 6, 7, 8, 9, 10, 11, 12, 13, 14, 15, 16, 17, 18, 19, 20, 21, 22, 23, 24, 25, 26, 27, 28, 29, 30, 31, 32, 33] (ws' := [(o, .inr (14, [.ref q1, .ref q17, .ref q22, .ref q27, .null, .ref q4, .null, .null, .null, .null, .null])), (q1, .inr (7, [.ref q2, .ref q3, .int (nI 0), .int (nI 0)])), (q2, aI k 36 (fun _ => 0)), (q3, aI k 6 (fun _ => 0)), (q4, .inr (6, [.ref q1, .ref q5, .ref q6, .ref q7])), (q7, .inr (12, [.ref q8])), (q8, aI k 6 (fun _ => 0)), (q5, .inr (10, [.ref q1, .ref q9, .ref q11, .int 0])), (q9, .inr (12, [.ref q10])), (q10, aI k 6 (fun _ => 0)), (q11, .inr (12, [.ref q12])), (q12, aI k 6 (fun _ => 0)), (q6, .inr (10, [.ref q1, .ref q13, .ref q15, .int 0])), (q13, .inr (12, [.ref q14])), (q14, aI k 6 (fun _ => 0)), (q15, .inr (12, [.ref q16])), (q16, aI k 6 (fun _ => 0)), (q17, .inr (10, [.ref q1, .ref q18, .ref q20, .int 0])), (q18, .inr (12, [.ref q19])), (q19, aI k 6 (fun _ => 0)), (q20, .inr (12, [.ref q21])), (q21, aI k 6 (fun _ => 0)), (q22, .inr (10, [.ref q1, .ref q23, .ref q25, .int 0])), (q23, .inr (12, [.ref q24])), (q24, aI k 6 (fun _ => 0)), (q25, .inr (12, [.ref q26])), (q26, aI k 6 (fun _ => 0)), (q27, .inr (10, [.ref q1, .ref q28, .ref q30, .int 0])), (q28, .inr (12, [.ref q29])), (q29, aI k 6 (fun _ => 0)), (q30, .inr (12, [.ref q31])), (q31, aI k 6 (fun _ => 0)), (q32, .inr (12, [.ref q33])), (q33, aI k 6 (fun _ => 0))]) (st' := [.ref q32, .ref o]) (cells' := 33) (slots' := 154) (g' := 33) (by decide) rfl rfl rfl rfl rfl ?_
  refine g_putF (pc := 77) C (T := TX10) inX10 0 rfl rfl 4 (by decide) q_152 rfl tyX10 tyX10_ok nmX10 rfl hin rfl [(o, .inr (14, [.ref q1, .ref q17, .ref q22, .ref q27, .ref q32, .ref q4, .null, .null, .null, .null, .null])), (q1, .inr (7, [.ref q2, .ref q3, .int (nI 0), .int (nI 0)])), (q2, aI k 36 (fun _ => 0)), (q3, aI k 6 (fun _ => 0)), (q4, .inr (6, [.ref q1, .ref q5, .ref q6, .ref q7])), (q7, .inr (12, [.ref q8])), (q8, aI k 6 (fun _ => 0)), (q5, .inr (10, [.ref q1, .ref q9, .ref q11, .int 0])), (q9, .inr (12, [.ref q10])), (q10, aI k 6 (fun _ => 0)), (q11, .inr (12, [.ref q12])), (q12, aI k 6 (fun _ => 0)), (q6, .inr (10, [.ref q1, .ref q13, .ref q15, .int 0])), (q13, .inr (12, [.ref q14])), (q14, aI k 6 (fun _ => 0)), (q15, .inr (12, [.ref q16])), (q16, aI k 6 (fun _ => 0)), (q17, .inr (10, [.ref q1, .ref q18, .ref q20, .int 0])), (q18, .inr (12, [.ref q19])), (q19, aI k 6 (fun _ => 0)), (q20, .inr (12, [.ref q21])), (q21, aI k 6 (fun _ => 0)), (q22, .inr (10, [.ref q1, .ref q23, .ref q25, .int 0])), (q23, .inr (12, [.ref q24])), (q24, aI k 6 (fun _ => 0)), (q25, .inr (12, [.ref q26])), (q26, aI k 6 (fun _ => 0)), (q27, .inr (10, [.ref q1, .ref q28, .ref q30, .int 0])), (q28, .inr (12, [.ref q29])), (q29, aI k 6 (fun _ => 0)), (q30, .inr (12, [.ref q31])), (q31, aI k 6 (fun _ => 0)), (q32, .inr (12, [.ref q33])), (q33, aI k 6 (fun _ => 0))] (tyX10_ok 4 (by decide)) rfl rfl (Nat.le_of_ble_eq_true rfl) rfl dX10_init_77 ?_
  refine g_aload_n (pc := 80) C 2 rfl rfl dX10_init_80 ?_
  refine g_new (pc := 81) (ci := 8) (cells := 33) (slots := 154) (g := 33) C [.null, .null, .null] (T := TX4) inX4 tyX4 tyX4_ok q_154 q_153 q_155 rfl (fun j hj => by rcases (show j = 0 ∨ j = 1 ∨ j = 2 by omega) with rfl | rfl | rfl <;> rfl) (Nat.le_of_ble_eq_true rfl) (Nat.le_of_ble_eq_true rfl) dX10_init_81 (fun q34 => ?_)
  refine G.eqw (ws' := [(o, .inr (14, [.ref q1, .ref q17, .ref q22, .ref q27, .ref q32, .ref q4, .null, .null, .null, .null, .null])), (q1, .inr (7, [.ref q2, .ref q3, .int (nI 0), .int (nI 0)])), (q2, aI k 36 (fun _ => 0)), (q3, aI k 6 (fun _ => 0)), (q4, .inr (6, [.ref q1, .ref q5, .ref q6, .ref q7])), (q7, .inr (12, [.ref q8])), (q8, aI k 6 (fun _ => 0)), (q5, .inr (10, [.ref q1, .ref q9, .ref q11, .int 0])), (q9, .inr (12, [.ref q10])), (q10, aI k 6 (fun _ => 0)), (q11, .inr (12, [.ref q12])), (q12, aI k 6 (fun _ => 0)), (q6, .inr (10, [.ref q1, .ref q13, .ref q15, .int 0])), (q13, .inr (12, [.ref q14])), (q14, aI k 6 (fun _ => 0)), (q15, .inr (12, [.ref q16])), (q16, aI k 6 (fun _ => 0)), (q17, .inr (10, [.ref q1, .ref q18, .ref q20, .int 0])), (q18, .inr (12, [.ref q19])), (q19, aI k 6 (fun _ => 0)), (q20, .inr (12, [.ref q21])), (q21, aI k 6 (fun _ => 0)), (q22, .inr (10, [.ref q1, .ref q23, .ref q25, .int 0])), (q23, .inr (12, [.ref q24])), (q24, aI k 6 (fun _ => 0)), (q25, .inr (12, [.ref q26])), (q26, aI k 6 (fun _ => 0)), (q27, .inr (10, [.ref q1, .ref q28, .ref q30, .int 0])), (q28, .inr (12, [.ref q29])), (q29, aI k 6 (fun _ => 0)), (q30, .inr (12, [.ref q31])), (q31, aI k 6 (fun _ => 0)), (q32, .inr (12, [.ref q33])), (q33, aI k 6 (fun _ => 0)), (q34, .inr (8, [.null, .null, .null]))]) rfl ?_
  refine g_dup (pc := 84) C rfl dX10_init_84 ?_
  refine g_aload_n (pc := 85) C 1 rfl rfl dX10_init_85 ?_
  refine g_callI (pc := 86) (cells := 34) (slots := 157) (g := 34) (As := [.ref q1]) (st := [.ref q34, .ref o]) C (nA := 1) rfl (c_X4_init q34 q1 ) q_157 q_158 q_155 q_156 rfl rfl (by decide +kernel) dX10_init_86 ⟨Nat.le_of_ble_eq_true rfl, Nat.le_of_ble_eq_true rfl⟩ [34] [0, 1, 2, 3, 4, 5, 6, 7, 8, 9, 10, 11, 12, 13, 14, 15, 16, 17, 18, 19, 20, 21, 22, 23, 24, 25, 26, 27, 28, 29, 30, 31, 32, 33] rfl (wr := [(o, .inr (14, [.ref q1, .ref q17, .ref q22, .ref q27, .ref q32, .ref q4, .null, .null, .null, .null, .null])), (q1, .inr (7, [.ref q2, .ref q3, .int (nI 0), .int (nI 0)])), (q2, aI k 36 (fun _ => 0)), (q3, aI k 6 (fun _ => 0)), (q4, .inr (6, [.ref q1, .ref q5, .ref q6, .ref q7])), (q7, .inr (12, [.ref q8])), (q8, aI k 6 (fun _ => 0)), (q5, .inr (10, [.ref q1, .ref q9, .ref q11, .int 0])), (q9, .inr (12, [.ref q10])), (q10, aI k 6 (fun _ => 0)), (q11, .inr (12, [.ref q12])), (q12, aI k 6 (fun _ => 0)), (q6, .inr (10, [.ref q1, .ref q13, .ref q15, .int 0])), (q13, .inr (12, [.ref q14])), (q14, aI k 6 (fun _ => 0)), (q15, .inr (12, [.ref q16])), (q16, aI k 6 (fun _ => 0)), (q17, .inr (10, [.ref q1, .ref q18, .ref q20, .int 0])), (q18, .inr (12, [.ref q19])), (q19, aI k 6 (fun _ => 0)), (q20, .inr (12, [.ref q21])), (q21, aI k 6 (fun _ => 0)), (q22, .inr (10, [.ref q1, .ref q23, .ref q25, .int 0])), (q23, .inr (12, [.ref q24])), (q24, aI k 6 (fun _ => 0)), (q25, .inr (12, [.ref q26])), (q26, aI k 6 (fun _ => 0)), (q27, .inr (10, [.ref q1, .ref q28, .ref q30, .int 0])), (q28, .inr (12, [.ref q29])), (q29, aI k 6 (fun _ => 0)), (q30, .inr (12, [.ref q31])), (q31, aI k 6 (fun _ => 0)), (q32, .inr (12, [.ref q33])), (q33, aI k 6 (fun _ => 0))]) rfl (by decide) (by decide) (by decide) (Nat.le_of_ble_eq_true rfl) ⟨Nat.le_of_ble_eq_true rfl, Nat.le_of_ble_eq_true rfl⟩ (fun rv w1 h1 => ?_)
  obtain ⟨rfl, q35, q36, q37, q38, rfl⟩ := h1
  refine G.aft [0, 1, 2, 3, 4, 5, 6, 7, 8, 9, 10, 11, 12, 13, 14, 15, 16, 17, 18, 19, 20, 21, 22, 23, 24, 25, 26, 27, 28, 29, 30, 31, 32, 33, 34, 35, 36, 37, 38] (ws' := [(o, .inr (14, [.ref q1, .ref q17, .ref q22, .ref q27, .ref q32, .ref q4, .null, .null, .null, .null, .null])), (q1, .inr (7, [.ref q2, .ref q3, .int (nI 0), .int (nI 0)])), (q2, aI k 36 (fun _ => 0)), (q3, aI k 6 (fun _ => 0)), (q4, .inr (6, [.ref q1, .ref q5, .ref q6, .ref q7])), (q7, .inr (12, [.ref q8])), (q8, aI k 6 (fun _ => 0)), (q5, .inr (10, [.ref q1, .ref q9, .ref q11, .int 0])), (q9, .inr (12, [.ref q10])), (q10, aI k 6 (fun _ => 0)), (q11, .inr (12, [.ref q12])), (q12, aI k 6 (fun _ => 0)), (q6, .inr (10, [.ref q1, .ref q13, .ref q15, .int 0])), (q13, .inr (12, [.ref q14])), (q14, aI k 6 (fun _ => 0)), (q15, .inr (12, [.ref q16])), (q16, aI k 6 (fun _ => 0)), (q17, .inr (10, [.ref q1, .ref q18, .ref q20, .int 0])), (q18, .inr (12, [.ref q19])), (q19, aI k 6 (fun _ => 0)), (q20, .inr (12, [.ref q21])), (q21, aI k 6 (fun _ => 0)), (q22, .inr (10, [.ref q1, .ref q23, .ref q25, .int 0])), (q23, .inr (12, [.ref q24])), (q24, aI k 6 (fun _ => 0)), (q25, .inr (12, [.ref q26])), (q26, aI k 6 (fun _ => 0)), (q27, .inr (10, [.ref q1, .ref q28, .ref q30, .int 0])), (q28, .inr (12, [.ref q29])), (q29, aI k 6 (fun _ => 0)), (q30, .inr (12, [.ref q31])), (q31, aI k 6 (fun _ => 0)), (q32, .inr (12, [.ref q33])), (q33, aI k 6 (fun _ => 0)), (q34, .inr (8, [.ref q1, .ref q35, .ref q36])), (q35, .inr (9, [.ref q37])), (q37, aJ k 25 (fun _ => 0)), (q36, .inr (12, [.ref q38])), (q38, aI k 6 (fun _ => 0))]) (st' := [.ref q34, .ref o]) (cells' := 38) (slots' := 190) (g' := 38) (by decide) rfl rfl rfl rfl rfl ?_
  refine g_putF (pc := 89) C (T := TX10) inX10 0 rfl rfl 6 (by decide) q_159 rfl tyX10 tyX10_ok nmX10 rfl hin rfl [(o, .inr (14, [.ref q1, .ref q17, .ref q22, .ref q27, .ref q32, .ref q4, .ref q34, .null, .null, .null, .null])), (q1, .inr (7, [.ref q2, .ref q3, .int (nI 0), .int (nI 0)])), (q2, aI k 36 (fun _ => 0)), (q3, aI k 6 (fun _ => 0)), (q4, .inr (6, [.ref q1, .ref q5, .ref q6, .ref q7])), (q7, .inr (12, [.ref q8])), (q8, aI k 6 (fun _ => 0)), (q5, .inr (10, [.ref q1, .ref q9, .ref q11, .int 0])), (q9, .inr (12, [.ref q10])), (q10, aI k 6 (fun _ => 0)), (q11, .inr (12, [.ref q12])), (q12, aI k 6 (fun _ => 0)), (q6, .inr (10, [.ref q1, .ref q13, .ref q15, .int 0])), (q13, .inr (12, [.ref q14])), (q14, aI k 6 (fun _ => 0)), (q15, .inr (12, [.ref q16])), (q16, aI k 6 (fun _ => 0)), (q17, .inr (10, [.ref q1, .ref q18, .ref q20, .int 0])), (q18, .inr (12, [.ref q19])), (q19, aI k 6 (fun _ => 0)), (q20, .inr (12, [.ref q21])), (q21, aI k 6 (fun _ => 0)), (q22, .inr (10, [.ref q1, .ref q23, .ref q25, .int 0])), (q23, .inr (12, [.ref q24])), (q24, aI k 6 (fun _ => 0)), (q25, .inr (12, [.ref q26])), (q26, aI k 6 (fun _ => 0)), (q27, .inr (10, [.ref q1, .ref q28, .ref q30, .int 0])), (q28, .inr (12, [.ref q29])), (q29, aI k 6 (fun _ => 0)), (q30, .inr (12, [.ref q31])), (q31, aI k 6 (fun _ => 0)), (q32, .inr (12, [.ref q33])), (q33, aI k 6 (fun _ => 0)), (q34, .inr (8, [.ref q1, .ref q35, .ref q36])), (q35, .inr (9, [.ref q37])), (q37, aJ k 25 (fun _ => 0)), (q36, .inr (12, [.ref q38])), (q38, aI k 6 (fun _ => 0))] (tyX10_ok 6 (by decide)) rfl rfl (Nat.le_of_ble_eq_true rfl) rfl dX10_init_89 ?_
  refine g_aload_n (pc := 92) C 2 rfl rfl dX10_init_92 ?_
  refine g_new (pc := 93) (ci := 13) (cells := 38) (slots := 190) (g := 38) C [.null] (T := TX9) inX9 tyX9 tyX9_ok q_161 q_160 q_162 rfl (fun j hj => by rcases (show j = 0 by omega) with rfl <;> rfl) (Nat.le_of_ble_eq_true rfl) (Nat.le_of_ble_eq_true rfl) dX10_init_93 (fun q39 => ?_)
  refine G.eqw (ws' := [(o, .inr (14, [.ref q1, .ref q17, .ref q22, .ref q27, .ref q32, .ref q4, .ref q34, .null, .null, .null, .null])), (q1, .inr (7, [.ref q2, .ref q3, .int (nI 0), .int (nI 0)])), (q2, aI k 36 (fun _ => 0)), (q3, aI k 6 (fun _ => 0)), (q4, .inr (6, [.ref q1, .ref q5, .ref q6, .ref q7])), (q7, .inr (12, [.ref q8])), (q8, aI k 6 (fun _ => 0)), (q5, .inr (10, [.ref q1, .ref q9, .ref q11, .int 0])), (q9, .inr (12, [.ref q10])), (q10, aI k 6 (fun _ => 0)), (q11, .inr (12, [.ref q12])), (q12, aI k 6 (fun _ => 0)), (q6, .inr (10, [.ref q1, .ref q13, .ref q15, .int 0])), (q13, .inr (12, [.ref q14])), (q14, aI k 6 (fun _ => 0)), (q15, .inr (12, [.ref q16])), (q16, aI k 6 (fun _ => 0)), (q17, .inr (10, [.ref q1, .ref q18, .ref q20, .int 0])), (q18, .inr (12, [.ref q19])), (q19, aI k 6 (fun _ => 0)), (q20, .inr (12, [.ref q21])), (q21, aI k 6 (fun _ => 0)), (q22, .inr (10, [.ref q1, .ref q23, .ref q25, .int 0])), (q23, .inr (12, [.ref q24])), (q24, aI k 6 (fun _ => 0)), (q25, .inr (12, [.ref q26])), (q26, aI k 6 (fun _ => 0)), (q27, .inr (10, [.ref q1, .ref q28, .ref q30, .int 0])), (q28, .inr (12, [.ref q29])), (q29, aI k 6 (fun _ => 0)), (q30, .inr (12, [.ref q31])), (q31, aI k 6 (fun _ => 0)), (q32, .inr (12, [.ref q33])), (q33, aI k 6 (fun _ => 0)), (q34, .inr (8, [.ref q1, .ref q35, .ref q36])), (q35, .inr (9, [.ref q37])), (q37, aJ k 25 (fun _ => 0)), (q36, .inr (12, [.ref q38])), (q38, aI k 6 (fun _ => 0)), (q39, .inr (13, [.null]))]) rfl ?_
  refine g_dup (pc := 96) C rfl dX10_init_96 ?_
  refine g_callIN (pc := 97) (cells := 39) (slots := 191) (g := 39) (As := []) (st := [.ref q39, .ref o]) C (nA := 0) rfl (c_X9_init q39 ) (host := "Chipfold") (by decide +kernel) q_164 q_162 q_163 rfl rfl (by decide +kernel) dX10_init_97 ⟨Nat.le_of_ble_eq_true rfl, Nat.le_of_ble_eq_true rfl⟩ [39] [0, 1, 2, 3, 4, 5, 6, 7, 8, 9, 10, 11, 12, 13, 14, 15, 16, 17, 18, 19, 20, 21, 22, 23, 24, 25, 26, 27, 28, 29, 30, 31, 32, 33, 34, 35, 36, 37, 38] rfl (wr := [(o, .inr (14, [.ref q1, .ref q17, .ref q22, .ref q27, .ref q32, .ref q4, .ref q34, .null, .null, .null, .null])), (q1, .inr (7, [.ref q2, .ref q3, .int (nI 0), .int (nI 0)])), (q2, aI k 36 (fun _ => 0)), (q3, aI k 6 (fun _ => 0)), (q4, .inr (6, [.ref q1, .ref q5, .ref q6, .ref q7])), (q7, .inr (12, [.ref q8])), (q8, aI k 6 (fun _ => 0)), (q5, .inr (10, [.ref q1, .ref q9, .ref q11, .int 0])), (q9, .inr (12, [.ref q10])), (q10, aI k 6 (fun _ => 0)), (q11, .inr (12, [.ref q12])), (q12, aI k 6 (fun _ => 0)), (q6, .inr (10, [.ref q1, .ref q13, .ref q15, .int 0])), (q13, .inr (12, [.ref q14])), (q14, aI k 6 (fun _ => 0)), (q15, .inr (12, [.ref q16])), (q16, aI k 6 (fun _ => 0)), (q17, .inr (10, [.ref q1, .ref q18, .ref q20, .int 0])), (q18, .inr (12, [.ref q19])), (q19, aI k 6 (fun _ => 0)), (q20, .inr (12, [.ref q21])), (q21, aI k 6 (fun _ => 0)), (q22, .inr (10, [.ref q1, .ref q23, .ref q25, .int 0])), (q23, .inr (12, [.ref q24])), (q24, aI k 6 (fun _ => 0)), (q25, .inr (12, [.ref q26])), (q26, aI k 6 (fun _ => 0)), (q27, .inr (10, [.ref q1, .ref q28, .ref q30, .int 0])), (q28, .inr (12, [.ref q29])), (q29, aI k 6 (fun _ => 0)), (q30, .inr (12, [.ref q31])), (q31, aI k 6 (fun _ => 0)), (q32, .inr (12, [.ref q33])), (q33, aI k 6 (fun _ => 0)), (q34, .inr (8, [.ref q1, .ref q35, .ref q36])), (q35, .inr (9, [.ref q37])), (q37, aJ k 25 (fun _ => 0)), (q36, .inr (12, [.ref q38])), (q38, aI k 6 (fun _ => 0))]) rfl (by decide) (by decide) (by decide) (Nat.le_of_ble_eq_true rfl) ⟨Nat.le_of_ble_eq_true rfl, Nat.le_of_ble_eq_true rfl⟩ (fun rv w1 h1 => ?_)
  obtain ⟨rfl, q40, q41, rfl⟩ := h1
  refine G.aft [0, 1, 2, 3, 4, 5, 6, 7, 8, 9, 10, 11, 12, 13, 14, 15, 16, 17, 18, 19, 20, 21, 22, 23, 24, 25, 26, 27, 28, 29, 30, 31, 32, 33, 34, 35, 36, 37, 38, 39, 40, 41] (ws' := [(o, .inr (14, [.ref q1, .ref q17, .ref q22, .ref q27, .ref q32, .ref q4, .ref q34, .null, .null, .null, .null])), (q1, .inr (7, [.ref q2, .ref q3, .int (nI 0), .int (nI 0)])), (q2, aI k 36 (fun _ => 0)), (q3, aI k 6 (fun _ => 0)), (q4, .inr (6, [.ref q1, .ref q5, .ref q6, .ref q7])), (q7, .inr (12, [.ref q8])), (q8, aI k 6 (fun _ => 0)), (q5, .inr (10, [.ref q1, .ref q9, .ref q11, .int 0])), (q9, .inr (12, [.ref q10])), (q10, aI k 6 (fun _ => 0)), (q11, .inr (12, [.ref q12])), (q12, aI k 6 (fun _ => 0)), (q6, .inr (10, [.ref q1, .ref q13, .ref q15, .int 0])), (q13, .inr (12, [.ref q14])), (q14, aI k 6 (fun _ => 0)), (q15, .inr (12, [.ref q16])), (q16, aI k 6 (fun _ => 0)), (q17, .inr (10, [.ref q1, .ref q18, .ref q20, .int 0])), (q18, .inr (12, [.ref q19])), (q19, aI k 6 (fun _ => 0)), (q20, .inr (12, [.ref q21])), (q21, aI k 6 (fun _ => 0)), (q22, .inr (10, [.ref q1, .ref q23, .ref q25, .int 0])), (q23, .inr (12, [.ref q24])), (q24, aI k 6 (fun _ => 0)), (q25, .inr (12, [.ref q26])), (q26, aI k 6 (fun _ => 0)), (q27, .inr (10, [.ref q1, .ref q28, .ref q30, .int 0])), (q28, .inr (12, [.ref q29])), (q29, aI k 6 (fun _ => 0)), (q30, .inr (12, [.ref q31])), (q31, aI k 6 (fun _ => 0)), (q32, .inr (12, [.ref q33])), (q33, aI k 6 (fun _ => 0)), (q34, .inr (8, [.ref q1, .ref q35, .ref q36])), (q35, .inr (9, [.ref q37])), (q37, aJ k 25 (fun _ => 0)), (q36, .inr (12, [.ref q38])), (q38, aI k 6 (fun _ => 0)), (q39, .inr (13, [.ref q40])), (q40, .inr (12, [.ref q41])), (q41, aI k 252 (fun _ => 0))]) (st' := [.ref q39, .ref o]) (cells' := 41) (slots' := 444) (g' := 41) (by decide) rfl rfl rfl rfl rfl ?_
  refine g_putF (pc := 100) C (T := TX10) inX10 0 rfl rfl 7 (by decide) q_165 rfl tyX10 tyX10_ok nmX10 rfl hin rfl [(o, .inr (14, [.ref q1, .ref q17, .ref q22, .ref q27, .ref q32, .ref q4, .ref q34, .ref q39, .null, .null, .null])), (q1, .inr (7, [.ref q2, .ref q3, .int (nI 0), .int (nI 0)])), (q2, aI k 36 (fun _ => 0)), (q3, aI k 6 (fun _ => 0)), (q4, .inr (6, [.ref q1, .ref q5, .ref q6, .ref q7])), (q7, .inr (12, [.ref q8])), (q8, aI k 6 (fun _ => 0)), (q5, .inr (10, [.ref q1, .ref q9, .ref q11, .int 0])), (q9, .inr (12, [.ref q10])), (q10, aI k 6 (fun _ => 0)), (q11, .inr (12, [.ref q12])), (q12, aI k 6 (fun _ => 0)), (q6, .inr (10, [.ref q1, .ref q13, .ref q15, .int 0])), (q13, .inr (12, [.ref q14])), (q14, aI k 6 (fun _ => 0)), (q15, .inr (12, [.ref q16])), (q16, aI k 6 (fun _ => 0)), (q17, .inr (10, [.ref q1, .ref q18, .ref q20, .int 0])), (q18, .inr (12, [.ref q19])), (q19, aI k 6 (fun _ => 0)), (q20, .inr (12, [.ref q21])), (q21, aI k 6 (fun _ => 0)), (q22, .inr (10, [.ref q1, .ref q23, .ref q25, .int 0])), (q23, .inr (12, [.ref q24])), (q24, aI k 6 (fun _ => 0)), (q25, .inr (12, [.ref q26])), (q26, aI k 6 (fun _ => 0)), (q27, .inr (10, [.ref q1, .ref q28, .ref q30, .int 0])), (q28, .inr (12, [.ref q29])), (q29, aI k 6 (fun _ => 0)), (q30, .inr (12, [.ref q31])), (q31, aI k 6 (fun _ => 0)), (q32, .inr (12, [.ref q33])), (q33, aI k 6 (fun _ => 0)), (q34, .inr (8, [.ref q1, .ref q35, .ref q36])), (q35, .inr (9, [.ref q37])), (q37, aJ k 25 (fun _ => 0)), (q36, .inr (12, [.ref q38])), (q38, aI k 6 (fun _ => 0)), (q39, .inr (13, [.ref q40])), (q40, .inr (12, [.ref q41])), (q41, aI k 252 (fun _ => 0))] (tyX10_ok 7 (by decide)) rfl rfl (Nat.le_of_ble_eq_true rfl) rfl dX10_init_100 ?_
  refine g_aload_n (pc := 103) C 2 rfl rfl dX10_init_103 ?_
  refine g_new (pc := 104) (ci := 11) (cells := 41) (slots := 444) (g := 41) C [.null, .null, .null] (T := TX7) inX7 tyX7 tyX7_ok q_167 q_166 q_168 rfl (fun j hj => by rcases (show j = 0 ∨ j = 1 ∨ j = 2 by omega) with rfl | rfl | rfl <;> rfl) (Nat.le_of_ble_eq_true rfl) (Nat.le_of_ble_eq_true rfl) dX10_init_104 (fun q42 => ?_)
  refine G.eqw (ws' := [(o, .inr (14, [.ref q1, .ref q17, .ref q22, .ref q27, .ref q32, .ref q4, .ref q34, .ref q39, .null, .null, .null])), (q1, .inr (7, [.ref q2, .ref q3, .int (nI 0), .int (nI 0)])), (q2, aI k 36 (fun _ => 0)), (q3, aI k 6 (fun _ => 0)), (q4, .inr (6, [.ref q1, .ref q5, .ref q6, .ref q7])), (q7, .inr (12, [.ref q8])), (q8, aI k 6 (fun _ => 0)), (q5, .inr (10, [.ref q1, .ref q9, .ref q11, .int 0])), (q9, .inr (12, [.ref q10])), (q10, aI k 6 (fun _ => 0)), (q11, .inr (12, [.ref q12])), (q12, aI k 6 (fun _ => 0)), (q6, .inr (10, [.ref q1, .ref q13, .ref q15, .int 0])), (q13, .inr (12, [.ref q14])), (q14, aI k 6 (fun _ => 0)), (q15, .inr (12, [.ref q16])), (q16, aI k 6 (fun _ => 0)), (q17, .inr (10, [.ref q1, .ref q18, .ref q20, .int 0])), (q18, .inr (12, [.ref q19])), (q19, aI k 6 (fun _ => 0)), (q20, .inr (12, [.ref q21])), (q21, aI k 6 (fun _ => 0)), (q22, .inr (10, [.ref q1, .ref q23, .ref q25, .int 0])), (q23, .inr (12, [.ref q24])), (q24, aI k 6 (fun _ => 0)), (q25, .inr (12, [.ref q26])), (q26, aI k 6 (fun _ => 0)), (q27, .inr (10, [.ref q1, .ref q28, .ref q30, .int 0])), (q28, .inr (12, [.ref q29])), (q29, aI k 6 (fun _ => 0)), (q30, .inr (12, [.ref q31])), (q31, aI k 6 (fun _ => 0)), (q32, .inr (12, [.ref q33])), (q33, aI k 6 (fun _ => 0)), (q34, .inr (8, [.ref q1, .ref q35, .ref q36])), (q35, .inr (9, [.ref q37])), (q37, aJ k 25 (fun _ => 0)), (q36, .inr (12, [.ref q38])), (q38, aI k 6 (fun _ => 0)), (q39, .inr (13, [.ref q40])), (q40, .inr (12, [.ref q41])), (q41, aI k 252 (fun _ => 0)), (q42, .inr (11, [.null, .null, .null]))]) rfl ?_
  refine g_dup (pc := 107) C rfl dX10_init_107 ?_
  refine g_aload_n (pc := 108) C 1 rfl rfl dX10_init_108 ?_
  refine g_callI (pc := 109) (cells := 42) (slots := 447) (g := 42) (As := [.ref q1]) (st := [.ref q42, .ref o]) C (nA := 1) rfl (c_X7_init q42 q1 ) q_170 q_171 q_168 q_169 rfl rfl (by decide +kernel) dX10_init_109 ⟨Nat.le_of_ble_eq_true rfl, Nat.le_of_ble_eq_true rfl⟩ [42] [0, 1, 2, 3, 4, 5, 6, 7, 8, 9, 10, 11, 12, 13, 14, 15, 16, 17, 18, 19, 20, 21, 22, 23, 24, 25, 26, 27, 28, 29, 30, 31, 32, 33, 34, 35, 36, 37, 38, 39, 40, 41] rfl (wr := [(o, .inr (14, [.ref q1, .ref q17, .ref q22, .ref q27, .ref q32, .ref q4, .ref q34, .ref q39, .null, .null, .null])), (q1, .inr (7, [.ref q2, .ref q3, .int (nI 0), .int (nI 0)])), (q2, aI k 36 (fun _ => 0)), (q3, aI k 6 (fun _ => 0)), (q4, .inr (6, [.ref q1, .ref q5, .ref q6, .ref q7])), (q7, .inr (12, [.ref q8])), (q8, aI k 6 (fun _ => 0)), (q5, .inr (10, [.ref q1, .ref q9, .ref q11, .int 0])), (q9, .inr (12, [.ref q10])), (q10, aI k 6 (fun _ => 0)), (q11, .inr (12, [.ref q12])), (q12, aI k 6 (fun _ => 0)), (q6, .inr (10, [.ref q1, .ref q13, .ref q15, .int 0])), (q13, .inr (12, [.ref q14])), (q14, aI k 6 (fun _ => 0)), (q15, .inr (12, [.ref q16])), (q16, aI k 6 (fun _ => 0)), (q17, .inr (10, [.ref q1, .ref q18, .ref q20, .int 0])), (q18, .inr (12, [.ref q19])), (q19, aI k 6 (fun _ => 0)), (q20, .inr (12, [.ref q21])), (q21, aI k 6 (fun _ => 0)), (q22, .inr (10, [.ref q1, .ref q23, .ref q25, .int 0])), (q23, .inr (12, [.ref q24])), (q24, aI k 6 (fun _ => 0)), (q25, .inr (12, [.ref q26])), (q26, aI k 6 (fun _ => 0)), (q27, .inr (10, [.ref q1, .ref q28, .ref q30, .int 0])), (q28, .inr (12, [.ref q29])), (q29, aI k 6 (fun _ => 0)), (q30, .inr (12, [.ref q31])), (q31, aI k 6 (fun _ => 0)), (q32, .inr (12, [.ref q33])), (q33, aI k 6 (fun _ => 0)), (q34, .inr (8, [.ref q1, .ref q35, .ref q36])), (q35, .inr (9, [.ref q37])), (q37, aJ k 25 (fun _ => 0)), (q36, .inr (12, [.ref q38])), (q38, aI k 6 (fun _ => 0)), (q39, .inr (13, [.ref q40])), (q40, .inr (12, [.ref q41])), (q41, aI k 252 (fun _ => 0))]) rfl (by decide) (by decide) (by decide) (Nat.le_of_ble_eq_true rfl) ⟨Nat.le_of_ble_eq_true rfl, Nat.le_of_ble_eq_true rfl⟩ (fun rv w1 h1 => ?_)
  obtain ⟨rfl, q43, q44, q45, q46, rfl⟩ := h1
  refine G.aft [0, 1, 2, 3, 4, 5, 6, 7, 8, 9, 10, 11, 12, 13, 14, 15, 16, 17, 18, 19, 20, 21, 22, 23, 24, 25, 26, 27, 28, 29, 30, 31, 32, 33, 34, 35, 36, 37, 38, 39, 40, 41, 42, 43, 44, 45, 46] (ws' := [(o, .inr (14, [.ref q1, .ref q17, .ref q22, .ref q27, .ref q32, .ref q4, .ref q34, .ref q39, .null, .null, .null])), (q1, .inr (7, [.ref q2, .ref q3, .int (nI 0), .int (nI 0)])), (q2, aI k 36 (fun _ => 0)), (q3, aI k 6 (fun _ => 0)), (q4, .inr (6, [.ref q1, .ref q5, .ref q6, .ref q7])), (q7, .inr (12, [.ref q8])), (q8, aI k 6 (fun _ => 0)), (q5, .inr (10, [.ref q1, .ref q9, .ref q11, .int 0])), (q9, .inr (12, [.ref q10])), (q10, aI k 6 (fun _ => 0)), (q11, .inr (12, [.ref q12])), (q12, aI k 6 (fun _ => 0)), (q6, .inr (10, [.ref q1, .ref q13, .ref q15, .int 0])), (q13, .inr (12, [.ref q14])), (q14, aI k 6 (fun _ => 0)), (q15, .inr (12, [.ref q16])), (q16, aI k 6 (fun _ => 0)), (q17, .inr (10, [.ref q1, .ref q18, .ref q20, .int 0])), (q18, .inr (12, [.ref q19])), (q19, aI k 6 (fun _ => 0)), (q20, .inr (12, [.ref q21])), (q21, aI k 6 (fun _ => 0)), (q22, .inr (10, [.ref q1, .ref q23, .ref q25, .int 0])), (q23, .inr (12, [.ref q24])), (q24, aI k 6 (fun _ => 0)), (q25, .inr (12, [.ref q26])), (q26, aI k 6 (fun _ => 0)), (q27, .inr (10, [.ref q1, .ref q28, .ref q30, .int 0])), (q28, .inr (12, [.ref q29])), (q29, aI k 6 (fun _ => 0)), (q30, .inr (12, [.ref q31])), (q31, aI k 6 (fun _ => 0)), (q32, .inr (12, [.ref q33])), (q33, aI k 6 (fun _ => 0)), (q34, .inr (8, [.ref q1, .ref q35, .ref q36])), (q35, .inr (9, [.ref q37])), (q37, aJ k 25 (fun _ => 0)), (q36, .inr (12, [.ref q38])), (q38, aI k 6 (fun _ => 0)), (q39, .inr (13, [.ref q40])), (q40, .inr (12, [.ref q41])), (q41, aI k 252 (fun _ => 0)), (q42, .inr (11, [.ref q1, .ref q43, .ref q45])), (q43, .inr (12, [.ref q44])), (q44, aI k 6 (fun _ => 0)), (q45, .inr (12, [.ref q46])), (q46, aI k 6 (fun _ => 0))]) (st' := [.ref q42, .ref o]) (cells' := 46) (slots' := 461) (g' := 46) (by decide) rfl rfl rfl rfl rfl ?_
  refine g_putF (pc := 112) C (T := TX10) inX10 0 rfl rfl 8 (by decide) q_172 rfl tyX10 tyX10_ok nmX10 rfl hin rfl [(o, .inr (14, [.ref q1, .ref q17, .ref q22, .ref q27, .ref q32, .ref q4, .ref q34, .ref q39, .ref q42, .null, .null])), (q1, .inr (7, [.ref q2, .ref q3, .int (nI 0), .int (nI 0)])), (q2, aI k 36 (fun _ => 0)), (q3, aI k 6 (fun _ => 0)), (q4, .inr (6, [.ref q1, .ref q5, .ref q6, .ref q7])), (q7, .inr (12, [.ref q8])), (q8, aI k 6 (fun _ => 0)), (q5, .inr (10, [.ref q1, .ref q9, .ref q11, .int 0])), (q9, .inr (12, [.ref q10])), (q10, aI k 6 (fun _ => 0)), (q11, .inr (12, [.ref q12])), (q12, aI k 6 (fun _ => 0)), (q6, .inr (10, [.ref q1, .ref q13, .ref q15, .int 0])), (q13, .inr (12, [.ref q14])), (q14, aI k 6 (fun _ => 0)), (q15, .inr (12, [.ref q16])), (q16, aI k 6 (fun _ => 0)), (q17, .inr (10, [.ref q1, .ref q18, .ref q20, .int 0])), (q18, .inr (12, [.ref q19])), (q19, aI k 6 (fun _ => 0)), (q20, .inr (12, [.ref q21])), (q21, aI k 6 (fun _ => 0)), (q22, .inr (10, [.ref q1, .ref q23, .ref q25, .int 0])), (q23, .inr (12, [.ref q24])), (q24, aI k 6 (fun _ => 0)), (q25, .inr (12, [.ref q26])), (q26, aI k 6 (fun _ => 0)), (q27, .inr (10, [.ref q1, .ref q28, .ref q30, .int 0])), (q28, .inr (12, [.ref q29])), (q29, aI k 6 (fun _ => 0)), (q30, .inr (12, [.ref q31])), (q31, aI k 6 (fun _ => 0)), (q32, .inr (12, [.ref q33])), (q33, aI k 6 (fun _ => 0)), (q34, .inr (8, [.ref q1, .ref q35, .ref q36])), (q35, .inr (9, [.ref q37])), (q37, aJ k 25 (fun _ => 0)), (q36, .inr (12, [.ref q38])), (q38, aI k 6 (fun _ => 0)), (q39, .inr (13, [.ref q40])), (q40, .inr (12, [.ref q41])), (q41, aI k 252 (fun _ => 0)), (q42, .inr (11, [.ref q1, .ref q43, .ref q45])), (q43, .inr (12, [.ref q44])), (q44, aI k 6 (fun _ => 0)), (q45, .inr (12, [.ref q46])), (q46, aI k 6 (fun _ => 0))] (tyX10_ok 8 (by decide)) rfl rfl (Nat.le_of_ble_eq_true rfl) rfl dX10_init_112 ?_
  refine g_aload_n (pc := 115) C 2 rfl rfl dX10_init_115 ?_
  refine g_new (pc := 116) (ci := 4) (cells := 46) (slots := 461) (g := 46) C [.null, .null, .null, .null, .null, .null, .null] (T := TX0) inX0 tyX0 tyX0_ok q_174 q_173 q_175 rfl (fun j hj => by rcases (show j = 0 ∨ j = 1 ∨ j = 2 ∨ j = 3 ∨ j = 4 ∨ j = 5 ∨ j = 6 by omega) with rfl | rfl | rfl | rfl | rfl | rfl | rfl <;> rfl) (Nat.le_of_ble_eq_true rfl) (Nat.le_of_ble_eq_true rfl) dX10_init_116 (fun q47 => ?_)
  refine G.eqw (ws' := [(o, .inr (14, [.ref q1, .ref q17, .ref q22, .ref q27, .ref q32, .ref q4, .ref q34, .ref q39, .ref q42, .null, .null])), (q1, .inr (7, [.ref q2, .ref q3, .int (nI 0), .int (nI 0)])), (q2, aI k 36 (fun _ => 0)), (q3, aI k 6 (fun _ => 0)), (q4, .inr (6, [.ref q1, .ref q5, .ref q6, .ref q7])), (q7, .inr (12, [.ref q8])), (q8, aI k 6 (fun _ => 0)), (q5, .inr (10, [.ref q1, .ref q9, .ref q11, .int 0])), (q9, .inr (12, [.ref q10])), (q10, aI k 6 (fun _ => 0)), (q11, .inr (12, [.ref q12])), (q12, aI k 6 (fun _ => 0)), (q6, .inr (10, [.ref q1, .ref q13, .ref q15, .int 0])), (q13, .inr (12, [.ref q14])), (q14, aI k 6 (fun _ => 0)), (q15, .inr (12, [.ref q16])), (q16, aI k 6 (fun _ => 0)), (q17, .inr (10, [.ref q1, .ref q18, .ref q20, .int 0])), (q18, .inr (12, [.ref q19])), (q19, aI k 6 (fun _ => 0)), (q20, .inr (12, [.ref q21])), (q21, aI k 6 (fun _ => 0)), (q22, .inr (10, [.ref q1, .ref q23, .ref q25, .int 0])), (q23, .inr (12, [.ref q24])), (q24, aI k 6 (fun _ => 0)), (q25, .inr (12, [.ref q26])), (q26, aI k 6 (fun _ => 0)), (q27, .inr (10, [.ref q1, .ref q28, .ref q30, .int 0])), (q28, .inr (12, [.ref q29])), (q29, aI k 6 (fun _ => 0)), (q30, .inr (12, [.ref q31])), (q31, aI k 6 (fun _ => 0)), (q32, .inr (12, [.ref q33])), (q33, aI k 6 (fun _ => 0)), (q34, .inr (8, [.ref q1, .ref q35, .ref q36])), (q35, .inr (9, [.ref q37])), (q37, aJ k 25 (fun _ => 0)), (q36, .inr (12, [.ref q38])), (q38, aI k 6 (fun _ => 0)), (q39, .inr (13, [.ref q40])), (q40, .inr (12, [.ref q41])), (q41, aI k 252 (fun _ => 0)), (q42, .inr (11, [.ref q1, .ref q43, .ref q45])), (q43, .inr (12, [.ref q44])), (q44, aI k 6 (fun _ => 0)), (q45, .inr (12, [.ref q46])), (q46, aI k 6 (fun _ => 0)), (q47, .inr (4, [.null, .null, .null, .null, .null, .null, .null]))]) rfl ?_
  refine g_dup (pc := 119) C rfl dX10_init_119 ?_
  refine g_aload_n (pc := 120) C 1 rfl rfl dX10_init_120 ?_
  refine g_aload_n (pc := 121) C 0 rfl rfl dX10_init_121 ?_
  refine g_callI (pc := 122) (cells := 47) (slots := 468) (g := 47) (As := [.ref q1, .ref q4]) (st := [.ref q47, .ref o]) C (nA := 2) rfl (c_X0_init q47 q1 q4 ) q_177 q_178 q_175 q_176 rfl rfl (by decide +kernel) dX10_init_122 ⟨Nat.le_of_ble_eq_true rfl, Nat.le_of_ble_eq_true rfl⟩ [47] [0, 1, 2, 3, 4, 5, 6, 7, 8, 9, 10, 11, 12, 13, 14, 15, 16, 17, 18, 19, 20, 21, 22, 23, 24, 25, 26, 27, 28, 29, 30, 31, 32, 33, 34, 35, 36, 37, 38, 39, 40, 41, 42, 43, 44, 45, 46] rfl (wr := [(o, .inr (14, [.ref q1, .ref q17, .ref q22, .ref q27, .ref q32, .ref q4, .ref q34, .ref q39, .ref q42, .null, .null])), (q1, .inr (7, [.ref q2, .ref q3, .int (nI 0), .int (nI 0)])), (q2, aI k 36 (fun _ => 0)), (q3, aI k 6 (fun _ => 0)), (q4, .inr (6, [.ref q1, .ref q5, .ref q6, .ref q7])), (q7, .inr (12, [.ref q8])), (q8, aI k 6 (fun _ => 0)), (q5, .inr (10, [.ref q1, .ref q9, .ref q11, .int 0])), (q9, .inr (12, [.ref q10])), (q10, aI k 6 (fun _ => 0)), (q11, .inr (12, [.ref q12])), (q12, aI k 6 (fun _ => 0)), (q6, .inr (10, [.ref q1, .ref q13, .ref q15, .int 0])), (q13, .inr (12, [.ref q14])), (q14, aI k 6 (fun _ => 0)), (q15, .inr (12, [.ref q16])), (q16, aI k 6 (fun _ => 0)), (q17, .inr (10, [.ref q1, .ref q18, .ref q20, .int 0])), (q18, .inr (12, [.ref q19])), (q19, aI k 6 (fun _ => 0)), (q20, .inr (12, [.ref q21])), (q21, aI k 6 (fun _ => 0)), (q22, .inr (10, [.ref q1, .ref q23, .ref q25, .int 0])), (q23, .inr (12, [.ref q24])), (q24, aI k 6 (fun _ => 0)), (q25, .inr (12, [.ref q26])), (q26, aI k 6 (fun _ => 0)), (q27, .inr (10, [.ref q1, .ref q28, .ref q30, .int 0])), (q28, .inr (12, [.ref q29])), (q29, aI k 6 (fun _ => 0)), (q30, .inr (12, [.ref q31])), (q31, aI k 6 (fun _ => 0)), (q32, .inr (12, [.ref q33])), (q33, aI k 6 (fun _ => 0)), (q34, .inr (8, [.ref q1, .ref q35, .ref q36])), (q35, .inr (9, [.ref q37])), (q37, aJ k 25 (fun _ => 0)), (q36, .inr (12, [.ref q38])), (q38, aI k 6 (fun _ => 0)), (q39, .inr (13, [.ref q40])), (q40, .inr (12, [.ref q41])), (q41, aI k 252 (fun _ => 0)), (q42, .inr (11, [.ref q1, .ref q43, .ref q45])), (q43, .inr (12, [.ref q44])), (q44, aI k 6 (fun _ => 0)), (q45, .inr (12, [.ref q46])), (q46, aI k 6 (fun _ => 0))]) rfl (by decide) (by decide) (by decide) (Nat.le_of_ble_eq_true rfl) ⟨Nat.le_of_ble_eq_true rfl, Nat.le_of_ble_eq_true rfl⟩ (fun rv w1 h1 => ?_)
  obtain ⟨rfl, q48, q49, q50, q51, q52, q53, q54, q55, q56, q57, q58, q59, q60, rfl⟩ := h1
  refine G.aft [0, 1, 2, 3, 4, 5, 6, 7, 8, 9, 10, 11, 12, 13, 14, 15, 16, 17, 18, 19, 20, 21, 22, 23, 24, 25, 26, 27, 28, 29, 30, 31, 32, 33, 34, 35, 36, 37, 38, 39, 40, 41, 42, 43, 44, 45, 46, 47, 48, 49, 50, 51, 52, 53, 54, 55, 56, 57, 58, 59, 60] (ws' := [(o, .inr (14, [.ref q1, .ref q17, .ref q22, .ref q27, .ref q32, .ref q4, .ref q34, .ref q39, .ref q42, .null, .null])), (q1, .inr (7, [.ref q2, .ref q3, .int (nI 0), .int (nI 0)])), (q2, aI k 36 (fun _ => 0)), (q3, aI k 6 (fun _ => 0)), (q4, .inr (6, [.ref q1, .ref q5, .ref q6, .ref q7])), (q7, .inr (12, [.ref q8])), (q8, aI k 6 (fun _ => 0)), (q5, .inr (10, [.ref q1, .ref q9, .ref q11, .int 0])), (q9, .inr (12, [.ref q10])), (q10, aI k 6 (fun _ => 0)), (q11, .inr (12, [.ref q12])), (q12, aI k 6 (fun _ => 0)), (q6, .inr (10, [.ref q1, .ref q13, .ref q15, .int 0])), (q13, .inr (12, [.ref q14])), (q14, aI k 6 (fun _ => 0)), (q15, .inr (12, [.ref q16])), (q16, aI k 6 (fun _ => 0)), (q17, .inr (10, [.ref q1, .ref q18, .ref q20, .int 0])), (q18, .inr (12, [.ref q19])), (q19, aI k 6 (fun _ => 0)), (q20, .inr (12, [.ref q21])), (q21, aI k 6 (fun _ => 0)), (q22, .inr (10, [.ref q1, .ref q23, .ref q25, .int 0])), (q23, .inr (12, [.ref q24])), (q24, aI k 6 (fun _ => 0)), (q25, .inr (12, [.ref q26])), (q26, aI k 6 (fun _ => 0)), (q27, .inr (10, [.ref q1, .ref q28, .ref q30, .int 0])), (q28, .inr (12, [.ref q29])), (q29, aI k 6 (fun _ => 0)), (q30, .inr (12, [.ref q31])), (q31, aI k 6 (fun _ => 0)), (q32, .inr (12, [.ref q33])), (q33, aI k 6 (fun _ => 0)), (q34, .inr (8, [.ref q1, .ref q35, .ref q36])), (q35, .inr (9, [.ref q37])), (q37, aJ k 25 (fun _ => 0)), (q36, .inr (12, [.ref q38])), (q38, aI k 6 (fun _ => 0)), (q39, .inr (13, [.ref q40])), (q40, .inr (12, [.ref q41])), (q41, aI k 252 (fun _ => 0)), (q42, .inr (11, [.ref q1, .ref q43, .ref q45])), (q43, .inr (12, [.ref q44])), (q44, aI k 6 (fun _ => 0)), (q45, .inr (12, [.ref q46])), (q46, aI k 6 (fun _ => 0)), (q47, .inr (4, [.ref q1, .ref q4, .ref q48, .ref q49, .ref q50, .ref q51, .ref q52])), (q48, .inr (12, [.ref q53])), (q53, aI k 6 (fun _ => 0)), (q49, .inr (12, [.ref q54])), (q54, aI k 6 (fun _ => 0)), (q50, .inr (12, [.ref q55])), (q55, aI k 6 (fun _ => 0)), (q51, .inr (12, [.ref q56])), (q56, aI k 6 (fun _ => 0)), (q52, .inr (10, [.ref q1, .ref q57, .ref q59, .int 0])), (q57, .inr (12, [.ref q58])), (q58, aI k 6 (fun _ => 0)), (q59, .inr (12, [.ref q60])), (q60, aI k 6 (fun _ => 0))]) (st' := [.ref q47, .ref o]) (cells' := 60) (slots' := 514) (g' := 60) (by decide) rfl rfl rfl rfl rfl ?_
  refine g_putF (pc := 125) C (T := TX10) inX10 0 rfl rfl 9 (by decide) q_179 rfl tyX10 tyX10_ok nmX10 rfl hin rfl [(o, .inr (14, [.ref q1, .ref q17, .ref q22, .ref q27, .ref q32, .ref q4, .ref q34, .ref q39, .ref q42, .ref q47, .null])), (q1, .inr (7, [.ref q2, .ref q3, .int (nI 0), .int (nI 0)])), (q2, aI k 36 (fun _ => 0)), (q3, aI k 6 (fun _ => 0)), (q4, .inr (6, [.ref q1, .ref q5, .ref q6, .ref q7])), (q7, .inr (12, [.ref q8])), (q8, aI k 6 (fun _ => 0)), (q5, .inr (10, [.ref q1, .ref q9, .ref q11, .int 0])), (q9, .inr (12, [.ref q10])), (q10, aI k 6 (fun _ => 0)), (q11, .inr (12, [.ref q12])), (q12, aI k 6 (fun _ => 0)), (q6, .inr (10, [.ref q1, .ref q13, .ref q15, .int 0])), (q13, .inr (12, [.ref q14])), (q14, aI k 6 (fun _ => 0)), (q15, .inr (12, [.ref q16])), (q16, aI k 6 (fun _ => 0)), (q17, .inr (10, [.ref q1, .ref q18, .ref q20, .int 0])), (q18, .inr (12, [.ref q19])), (q19, aI k 6 (fun _ => 0)), (q20, .inr (12, [.ref q21])), (q21, aI k 6 (fun _ => 0)), (q22, .inr (10, [.ref q1, .ref q23, .ref q25, .int 0])), (q23, .inr (12, [.ref q24])), (q24, aI k 6 (fun _ => 0)), (q25, .inr (12, [.ref q26])), (q26, aI k 6 (fun _ => 0)), (q27, .inr (10, [.ref q1, .ref q28, .ref q30, .int 0])), (q28, .inr (12, [.ref q29])), (q29, aI k 6 (fun _ => 0)), (q30, .inr (12, [.ref q31])), (q31, aI k 6 (fun _ => 0)), (q32, .inr (12, [.ref q33])), (q33, aI k 6 (fun _ => 0)), (q34, .inr (8, [.ref q1, .ref q35, .ref q36])), (q35, .inr (9, [.ref q37])), (q37, aJ k 25 (fun _ => 0)), (q36, .inr (12, [.ref q38])), (q38, aI k 6 (fun _ => 0)), (q39, .inr (13, [.ref q40])), (q40, .inr (12, [.ref q41])), (q41, aI k 252 (fun _ => 0)), (q42, .inr (11, [.ref q1, .ref q43, .ref q45])), (q43, .inr (12, [.ref q44])), (q44, aI k 6 (fun _ => 0)), (q45, .inr (12, [.ref q46])), (q46, aI k 6 (fun _ => 0)), (q47, .inr (4, [.ref q1, .ref q4, .ref q48, .ref q49, .ref q50, .ref q51, .ref q52])), (q48, .inr (12, [.ref q53])), (q53, aI k 6 (fun _ => 0)), (q49, .inr (12, [.ref q54])), (q54, aI k 6 (fun _ => 0)), (q50, .inr (12, [.ref q55])), (q55, aI k 6 (fun _ => 0)), (q51, .inr (12, [.ref q56])), (q56, aI k 6 (fun _ => 0)), (q52, .inr (10, [.ref q1, .ref q57, .ref q59, .int 0])), (q57, .inr (12, [.ref q58])), (q58, aI k 6 (fun _ => 0)), (q59, .inr (12, [.ref q60])), (q60, aI k 6 (fun _ => 0))] (tyX10_ok 9 (by decide)) rfl rfl (Nat.le_of_ble_eq_true rfl) rfl dX10_init_125 ?_
  refine g_aload_n (pc := 128) C 2 rfl rfl dX10_init_128 ?_
  refine g_new (pc := 129) (ci := 5) (cells := 60) (slots := 514) (g := 60) C [.null, .int 0] (T := TX1) inX1 tyX1 tyX1_ok q_181 q_180 q_182 rfl (fun j hj => by rcases (show j = 0 ∨ j = 1 by omega) with rfl | rfl <;> rfl) (Nat.le_of_ble_eq_true rfl) (Nat.le_of_ble_eq_true rfl) dX10_init_129 (fun q61 => ?_)
  refine G.eqw (ws' := [(o, .inr (14, [.ref q1, .ref q17, .ref q22, .ref q27, .ref q32, .ref q4, .ref q34, .ref q39, .ref q42, .ref q47, .null])), (q1, .inr (7, [.ref q2, .ref q3, .int (nI 0), .int (nI 0)])), (q2, aI k 36 (fun _ => 0)), (q3, aI k 6 (fun _ => 0)), (q4, .inr (6, [.ref q1, .ref q5, .ref q6, .ref q7])), (q7, .inr (12, [.ref q8])), (q8, aI k 6 (fun _ => 0)), (q5, .inr (10, [.ref q1, .ref q9, .ref q11, .int 0])), (q9, .inr (12, [.ref q10])), (q10, aI k 6 (fun _ => 0)), (q11, .inr (12, [.ref q12])), (q12, aI k 6 (fun _ => 0)), (q6, .inr (10, [.ref q1, .ref q13, .ref q15, .int 0])), (q13, .inr (12, [.ref q14])), (q14, aI k 6 (fun _ => 0)), (q15, .inr (12, [.ref q16])), (q16, aI k 6 (fun _ => 0)), (q17, .inr (10, [.ref q1, .ref q18, .ref q20, .int 0])), (q18, .inr (12, [.ref q19])), (q19, aI k 6 (fun _ => 0)), (q20, .inr (12, [.ref q21])), (q21, aI k 6 (fun _ => 0)), (q22, .inr (10, [.ref q1, .ref q23, .ref q25, .int 0])), (q23, .inr (12, [.ref q24])), (q24, aI k 6 (fun _ => 0)), (q25, .inr (12, [.ref q26])), (q26, aI k 6 (fun _ => 0)), (q27, .inr (10, [.ref q1, .ref q28, .ref q30, .int 0])), (q28, .inr (12, [.ref q29])), (q29, aI k 6 (fun _ => 0)), (q30, .inr (12, [.ref q31])), (q31, aI k 6 (fun _ => 0)), (q32, .inr (12, [.ref q33])), (q33, aI k 6 (fun _ => 0)), (q34, .inr (8, [.ref q1, .ref q35, .ref q36])), (q35, .inr (9, [.ref q37])), (q37, aJ k 25 (fun _ => 0)), (q36, .inr (12, [.ref q38])), (q38, aI k 6 (fun _ => 0)), (q39, .inr (13, [.ref q40])), (q40, .inr (12, [.ref q41])), (q41, aI k 252 (fun _ => 0)), (q42, .inr (11, [.ref q1, .ref q43, .ref q45])), (q43, .inr (12, [.ref q44])), (q44, aI k 6 (fun _ => 0)), (q45, .inr (12, [.ref q46])), (q46, aI k 6 (fun _ => 0)), (q47, .inr (4, [.ref q1, .ref q4, .ref q48, .ref q49, .ref q50, .ref q51, .ref q52])), (q48, .inr (12, [.ref q53])), (q53, aI k 6 (fun _ => 0)), (q49, .inr (12, [.ref q54])), (q54, aI k 6 (fun _ => 0)), (q50, .inr (12, [.ref q55])), (q55, aI k 6 (fun _ => 0)), (q51, .inr (12, [.ref q56])), (q56, aI k 6 (fun _ => 0)), (q52, .inr (10, [.ref q1, .ref q57, .ref q59, .int 0])), (q57, .inr (12, [.ref q58])), (q58, aI k 6 (fun _ => 0)), (q59, .inr (12, [.ref q60])), (q60, aI k 6 (fun _ => 0)), (q61, .inr (5, [.null, .int 0]))]) rfl ?_
  refine g_dup (pc := 132) C rfl dX10_init_132 ?_
  refine g_callIN (pc := 133) (cells := 61) (slots := 516) (g := 61) (As := []) (st := [.ref q61, .ref o]) C (nA := 0) rfl (c_X1_init q61 ) (host := "Chipfold") (by decide +kernel) q_184 q_182 q_183 rfl rfl (by decide +kernel) dX10_init_133 ⟨Nat.le_of_ble_eq_true rfl, Nat.le_of_ble_eq_true rfl⟩ [61] [0, 1, 2, 3, 4, 5, 6, 7, 8, 9, 10, 11, 12, 13, 14, 15, 16, 17, 18, 19, 20, 21, 22, 23, 24, 25, 26, 27, 28, 29, 30, 31, 32, 33, 34, 35, 36, 37, 38, 39, 40, 41, 42, 43, 44, 45, 46, 47, 48, 49, 50, 51, 52, 53, 54, 55, 56, 57, 58, 59, 60] rfl (wr := [(o, .inr (14, [.ref q1, .ref q17, .ref q22, .ref q27, .ref q32, .ref q4, .ref q34, .ref q39, .ref q42, .ref q47, .null])), (q1, .inr (7, [.ref q2, .ref q3, .int (nI 0), .int (nI 0)])), (q2, aI k 36 (fun _ => 0)), (q3, aI k 6 (fun _ => 0)), (q4, .inr (6, [.ref q1, .ref q5, .ref q6, .ref q7])), (q7, .inr (12, [.ref q8])), (q8, aI k 6 (fun _ => 0)), (q5, .inr (10, [.ref q1, .ref q9, .ref q11, .int 0])), (q9, .inr (12, [.ref q10])), (q10, aI k 6 (fun _ => 0)), (q11, .inr (12, [.ref q12])), (q12, aI k 6 (fun _ => 0)), (q6, .inr (10, [.ref q1, .ref q13, .ref q15, .int 0])), (q13, .inr (12, [.ref q14])), (q14, aI k 6 (fun _ => 0)), (q15, .inr (12, [.ref q16])), (q16, aI k 6 (fun _ => 0)), (q17, .inr (10, [.ref q1, .ref q18, .ref q20, .int 0])), (q18, .inr (12, [.ref q19])), (q19, aI k 6 (fun _ => 0)), (q20, .inr (12, [.ref q21])), (q21, aI k 6 (fun _ => 0)), (q22, .inr (10, [.ref q1, .ref q23, .ref q25, .int 0])), (q23, .inr (12, [.ref q24])), (q24, aI k 6 (fun _ => 0)), (q25, .inr (12, [.ref q26])), (q26, aI k 6 (fun _ => 0)), (q27, .inr (10, [.ref q1, .ref q28, .ref q30, .int 0])), (q28, .inr (12, [.ref q29])), (q29, aI k 6 (fun _ => 0)), (q30, .inr (12, [.ref q31])), (q31, aI k 6 (fun _ => 0)), (q32, .inr (12, [.ref q33])), (q33, aI k 6 (fun _ => 0)), (q34, .inr (8, [.ref q1, .ref q35, .ref q36])), (q35, .inr (9, [.ref q37])), (q37, aJ k 25 (fun _ => 0)), (q36, .inr (12, [.ref q38])), (q38, aI k 6 (fun _ => 0)), (q39, .inr (13, [.ref q40])), (q40, .inr (12, [.ref q41])), (q41, aI k 252 (fun _ => 0)), (q42, .inr (11, [.ref q1, .ref q43, .ref q45])), (q43, .inr (12, [.ref q44])), (q44, aI k 6 (fun _ => 0)), (q45, .inr (12, [.ref q46])), (q46, aI k 6 (fun _ => 0)), (q47, .inr (4, [.ref q1, .ref q4, .ref q48, .ref q49, .ref q50, .ref q51, .ref q52])), (q48, .inr (12, [.ref q53])), (q53, aI k 6 (fun _ => 0)), (q49, .inr (12, [.ref q54])), (q54, aI k 6 (fun _ => 0)), (q50, .inr (12, [.ref q55])), (q55, aI k 6 (fun _ => 0)), (q51, .inr (12, [.ref q56])), (q56, aI k 6 (fun _ => 0)), (q52, .inr (10, [.ref q1, .ref q57, .ref q59, .int 0])), (q57, .inr (12, [.ref q58])), (q58, aI k 6 (fun _ => 0)), (q59, .inr (12, [.ref q60])), (q60, aI k 6 (fun _ => 0))]) rfl (by decide) (by decide) (by decide) (Nat.le_of_ble_eq_true rfl) ⟨Nat.le_of_ble_eq_true rfl, Nat.le_of_ble_eq_true rfl⟩ (fun rv w1 h1 => ?_)
  obtain ⟨rfl, q62, q63, rfl⟩ := h1
  refine G.aft [0, 1, 2, 3, 4, 5, 6, 7, 8, 9, 10, 11, 12, 13, 14, 15, 16, 17, 18, 19, 20, 21, 22, 23, 24, 25, 26, 27, 28, 29, 30, 31, 32, 33, 34, 35, 36, 37, 38, 39, 40, 41, 42, 43, 44, 45, 46, 47, 48, 49, 50, 51, 52, 53, 54, 55, 56, 57, 58, 59, 60, 61, 62, 63] (ws' := [(o, .inr (14, [.ref q1, .ref q17, .ref q22, .ref q27, .ref q32, .ref q4, .ref q34, .ref q39, .ref q42, .ref q47, .null])), (q1, .inr (7, [.ref q2, .ref q3, .int (nI 0), .int (nI 0)])), (q2, aI k 36 (fun _ => 0)), (q3, aI k 6 (fun _ => 0)), (q4, .inr (6, [.ref q1, .ref q5, .ref q6, .ref q7])), (q7, .inr (12, [.ref q8])), (q8, aI k 6 (fun _ => 0)), (q5, .inr (10, [.ref q1, .ref q9, .ref q11, .int 0])), (q9, .inr (12, [.ref q10])), (q10, aI k 6 (fun _ => 0)), (q11, .inr (12, [.ref q12])), (q12, aI k 6 (fun _ => 0)), (q6, .inr (10, [.ref q1, .ref q13, .ref q15, .int 0])), (q13, .inr (12, [.ref q14])), (q14, aI k 6 (fun _ => 0)), (q15, .inr (12, [.ref q16])), (q16, aI k 6 (fun _ => 0)), (q17, .inr (10, [.ref q1, .ref q18, .ref q20, .int 0])), (q18, .inr (12, [.ref q19])), (q19, aI k 6 (fun _ => 0)), (q20, .inr (12, [.ref q21])), (q21, aI k 6 (fun _ => 0)), (q22, .inr (10, [.ref q1, .ref q23, .ref q25, .int 0])), (q23, .inr (12, [.ref q24])), (q24, aI k 6 (fun _ => 0)), (q25, .inr (12, [.ref q26])), (q26, aI k 6 (fun _ => 0)), (q27, .inr (10, [.ref q1, .ref q28, .ref q30, .int 0])), (q28, .inr (12, [.ref q29])), (q29, aI k 6 (fun _ => 0)), (q30, .inr (12, [.ref q31])), (q31, aI k 6 (fun _ => 0)), (q32, .inr (12, [.ref q33])), (q33, aI k 6 (fun _ => 0)), (q34, .inr (8, [.ref q1, .ref q35, .ref q36])), (q35, .inr (9, [.ref q37])), (q37, aJ k 25 (fun _ => 0)), (q36, .inr (12, [.ref q38])), (q38, aI k 6 (fun _ => 0)), (q39, .inr (13, [.ref q40])), (q40, .inr (12, [.ref q41])), (q41, aI k 252 (fun _ => 0)), (q42, .inr (11, [.ref q1, .ref q43, .ref q45])), (q43, .inr (12, [.ref q44])), (q44, aI k 6 (fun _ => 0)), (q45, .inr (12, [.ref q46])), (q46, aI k 6 (fun _ => 0)), (q47, .inr (4, [.ref q1, .ref q4, .ref q48, .ref q49, .ref q50, .ref q51, .ref q52])), (q48, .inr (12, [.ref q53])), (q53, aI k 6 (fun _ => 0)), (q49, .inr (12, [.ref q54])), (q54, aI k 6 (fun _ => 0)), (q50, .inr (12, [.ref q55])), (q55, aI k 6 (fun _ => 0)), (q51, .inr (12, [.ref q56])), (q56, aI k 6 (fun _ => 0)), (q52, .inr (10, [.ref q1, .ref q57, .ref q59, .int 0])), (q57, .inr (12, [.ref q58])), (q58, aI k 6 (fun _ => 0)), (q59, .inr (12, [.ref q60])), (q60, aI k 6 (fun _ => 0)), (q61, .inr (5, [.ref q62, .int 0])), (q62, .inr (12, [.ref q63])), (q63, aI k 81 (fun _ => 0))]) (st' := [.ref q61, .ref o]) (cells' := 63) (slots' := 598) (g' := 63) (by decide) rfl rfl rfl rfl rfl ?_
  refine g_putF (pc := 136) C (T := TX10) inX10 0 rfl rfl 10 (by decide) q_185 rfl tyX10 tyX10_ok nmX10 rfl hin rfl [(o, .inr (14, [.ref q1, .ref q17, .ref q22, .ref q27, .ref q32, .ref q4, .ref q34, .ref q39, .ref q42, .ref q47, .ref q61])), (q1, .inr (7, [.ref q2, .ref q3, .int (nI 0), .int (nI 0)])), (q2, aI k 36 (fun _ => 0)), (q3, aI k 6 (fun _ => 0)), (q4, .inr (6, [.ref q1, .ref q5, .ref q6, .ref q7])), (q7, .inr (12, [.ref q8])), (q8, aI k 6 (fun _ => 0)), (q5, .inr (10, [.ref q1, .ref q9, .ref q11, .int 0])), (q9, .inr (12, [.ref q10])), (q10, aI k 6 (fun _ => 0)), (q11, .inr (12, [.ref q12])), (q12, aI k 6 (fun _ => 0)), (q6, .inr (10, [.ref q1, .ref q13, .ref q15, .int 0])), (q13, .inr (12, [.ref q14])), (q14, aI k 6 (fun _ => 0)), (q15, .inr (12, [.ref q16])), (q16, aI k 6 (fun _ => 0)), (q17, .inr (10, [.ref q1, .ref q18, .ref q20, .int 0])), (q18, .inr (12, [.ref q19])), (q19, aI k 6 (fun _ => 0)), (q20, .inr (12, [.ref q21])), (q21, aI k 6 (fun _ => 0)), (q22, .inr (10, [.ref q1, .ref q23, .ref q25, .int 0])), (q23, .inr (12, [.ref q24])), (q24, aI k 6 (fun _ => 0)), (q25, .inr (12, [.ref q26])), (q26, aI k 6 (fun _ => 0)), (q27, .inr (10, [.ref q1, .ref q28, .ref q30, .int 0])), (q28, .inr (12, [.ref q29])), (q29, aI k 6 (fun _ => 0)), (q30, .inr (12, [.ref q31])), (q31, aI k 6 (fun _ => 0)), (q32, .inr (12, [.ref q33])), (q33, aI k 6 (fun _ => 0)), (q34, .inr (8, [.ref q1, .ref q35, .ref q36])), (q35, .inr (9, [.ref q37])), (q37, aJ k 25 (fun _ => 0)), (q36, .inr (12, [.ref q38])), (q38, aI k 6 (fun _ => 0)), (q39, .inr (13, [.ref q40])), (q40, .inr (12, [.ref q41])), (q41, aI k 252 (fun _ => 0)), (q42, .inr (11, [.ref q1, .ref q43, .ref q45])), (q43, .inr (12, [.ref q44])), (q44, aI k 6 (fun _ => 0)), (q45, .inr (12, [.ref q46])), (q46, aI k 6 (fun _ => 0)), (q47, .inr (4, [.ref q1, .ref q4, .ref q48, .ref q49, .ref q50, .ref q51, .ref q52])), (q48, .inr (12, [.ref q53])), (q53, aI k 6 (fun _ => 0)), (q49, .inr (12, [.ref q54])), (q54, aI k 6 (fun _ => 0)), (q50, .inr (12, [.ref q55])), (q55, aI k 6 (fun _ => 0)), (q51, .inr (12, [.ref q56])), (q56, aI k 6 (fun _ => 0)), (q52, .inr (10, [.ref q1, .ref q57, .ref q59, .int 0])), (q57, .inr (12, [.ref q58])), (q58, aI k 6 (fun _ => 0)), (q59, .inr (12, [.ref q60])), (q60, aI k 6 (fun _ => 0)), (q61, .inr (5, [.ref q62, .int 0])), (q62, .inr (12, [.ref q63])), (q63, aI k 81 (fun _ => 0))] (tyX10_ok 10 (by decide)) rfl rfl (Nat.le_of_ble_eq_true rfl) rfl dX10_init_136 ?_
  refine G.re [0, 1, 2, 3, 17, 18, 19, 20, 21, 22, 23, 24, 25, 26, 27, 28, 29, 30, 31, 32, 33, 4, 5, 6, 7, 8, 9, 10, 11, 12, 13, 14, 15, 16, 34, 35, 36, 37, 38, 39, 40, 41, 42, 43, 44, 45, 46, 47, 48, 49, 50, 51, 52, 53, 54, 55, 56, 57, 58, 59, 60, 61, 62, 63] (ws' := [(o, .inr (14, [.ref q1, .ref q17, .ref q22, .ref q27, .ref q32, .ref q4, .ref q34, .ref q39, .ref q42, .ref q47, .ref q61])), (q1, .inr (7, [.ref q2, .ref q3, .int (nI 0), .int (nI 0)])), (q2, aI k 36 (fun _ => 0)), (q3, aI k 6 (fun _ => 0)), (q17, .inr (10, [.ref q1, .ref q18, .ref q20, .int 0])), (q18, .inr (12, [.ref q19])), (q19, aI k 6 (fun _ => 0)), (q20, .inr (12, [.ref q21])), (q21, aI k 6 (fun _ => 0)), (q22, .inr (10, [.ref q1, .ref q23, .ref q25, .int 0])), (q23, .inr (12, [.ref q24])), (q24, aI k 6 (fun _ => 0)), (q25, .inr (12, [.ref q26])), (q26, aI k 6 (fun _ => 0)), (q27, .inr (10, [.ref q1, .ref q28, .ref q30, .int 0])), (q28, .inr (12, [.ref q29])), (q29, aI k 6 (fun _ => 0)), (q30, .inr (12, [.ref q31])), (q31, aI k 6 (fun _ => 0)), (q32, .inr (12, [.ref q33])), (q33, aI k 6 (fun _ => 0)), (q4, .inr (6, [.ref q1, .ref q5, .ref q6, .ref q7])), (q7, .inr (12, [.ref q8])), (q8, aI k 6 (fun _ => 0)), (q5, .inr (10, [.ref q1, .ref q9, .ref q11, .int 0])), (q9, .inr (12, [.ref q10])), (q10, aI k 6 (fun _ => 0)), (q11, .inr (12, [.ref q12])), (q12, aI k 6 (fun _ => 0)), (q6, .inr (10, [.ref q1, .ref q13, .ref q15, .int 0])), (q13, .inr (12, [.ref q14])), (q14, aI k 6 (fun _ => 0)), (q15, .inr (12, [.ref q16])), (q16, aI k 6 (fun _ => 0)), (q34, .inr (8, [.ref q1, .ref q35, .ref q36])), (q35, .inr (9, [.ref q37])), (q37, aJ k 25 (fun _ => 0)), (q36, .inr (12, [.ref q38])), (q38, aI k 6 (fun _ => 0)), (q39, .inr (13, [.ref q40])), (q40, .inr (12, [.ref q41])), (q41, aI k 252 (fun _ => 0)), (q42, .inr (11, [.ref q1, .ref q43, .ref q45])), (q43, .inr (12, [.ref q44])), (q44, aI k 6 (fun _ => 0)), (q45, .inr (12, [.ref q46])), (q46, aI k 6 (fun _ => 0)), (q47, .inr (4, [.ref q1, .ref q4, .ref q48, .ref q49, .ref q50, .ref q51, .ref q52])), (q48, .inr (12, [.ref q53])), (q53, aI k 6 (fun _ => 0)), (q49, .inr (12, [.ref q54])), (q54, aI k 6 (fun _ => 0)), (q50, .inr (12, [.ref q55])), (q55, aI k 6 (fun _ => 0)), (q51, .inr (12, [.ref q56])), (q56, aI k 6 (fun _ => 0)), (q52, .inr (10, [.ref q1, .ref q57, .ref q59, .int 0])), (q57, .inr (12, [.ref q58])), (q58, aI k 6 (fun _ => 0)), (q59, .inr (12, [.ref q60])), (q60, aI k 6 (fun _ => 0)), (q61, .inr (5, [.ref q62, .int 0])), (q62, .inr (12, [.ref q63])), (q63, aI k 81 (fun _ => 0))]) (by decide) rfl ?_
  exact g_vret (pc := 139) C hr hlk (by first | decide | omega) (by first | decide | omega) (by first | decide | omega) dX10_init_139 ⟨rfl, q1, q2, q3, q17, q18, q19, q20, q21, q22, q23, q24, q25, q26, q27, q28, q29, q30, q31, q32, q33, q4, q5, q6, q7, q8, q9, q10, q11, q12, q13, q14, q15, q16, q34, q35, q36, q37, q38, q39, q40, q41, q42, q43, q44, q45, q46, q47, q48, q49, q50, q51, q52, q53, q54, q55, q56, q57, q58, q59, q60, q61, q62, q63, rfl⟩
end
section
theorem dX10_beginAgain_0 : decode cX10_beginAgain 0 = .ok (.aload_n 0, 1) := by decide +kernel
theorem dX10_beginAgain_1 : decode cX10_beginAgain 1 = .ok (.getfield 28, 3) := by decide +kernel
theorem dX10_beginAgain_4 : decode cX10_beginAgain 4 = .ok (.invokevirtual 295, 3) := by decide +kernel
theorem q_186 : (Jvm.Cond.methodLink "Chipfold" (295 : Nat) ({ cls := "Chipfold$Pile", name := "clear", desc := "()V" } : Jvm.MethodName)) ∈ WG := wg_3 (List.mem_of_getElem? (i := 111) (by decide +kernel)) (by decide +kernel)
theorem dX10_beginAgain_7 : decode cX10_beginAgain 7 = .ok (.aload_n 0, 1) := by decide +kernel
theorem dX10_beginAgain_8 : decode cX10_beginAgain 8 = .ok (.getfield 64, 3) := by decide +kernel
theorem dX10_beginAgain_11 : decode cX10_beginAgain 11 = .ok (.invokevirtual 298, 3) := by decide +kernel
theorem q_187 : (Jvm.Cond.code ({ cls := "Chipfold$Rotors", name := "clear", desc := "()V" } : Jvm.MethodName) prog_9_method_2_code (1 : Nat) (Option.none : Option Jvm.ClassFile.FieldType)) ∈ WG := wg_3 (List.mem_of_getElem? (i := 115) rfl) rfl
theorem q_188 : (Jvm.Cond.selects "Chipfold$Rotors" ({ cls := "Chipfold$Rotors", name := "clear", desc := "()V" } : Jvm.MethodName) ({ cls := "Chipfold$Rotors", name := "clear", desc := "()V" } : Jvm.MethodName)) ∈ WG := wg_3 (List.mem_of_getElem? (i := 114) (by decide +kernel)) (by decide +kernel)
theorem q_189 : (Jvm.Cond.methodLink "Chipfold" (298 : Nat) ({ cls := "Chipfold$Rotors", name := "clear", desc := "()V" } : Jvm.MethodName)) ∈ WG := wg_3 (List.mem_of_getElem? (i := 112) (by decide +kernel)) (by decide +kernel)
theorem q_190 : (Jvm.Cond.instanceMethod ({ cls := "Chipfold$Rotors", name := "clear", desc := "()V" } : Jvm.MethodName)) ∈ WG := wg_3 (List.mem_of_getElem? (i := 113) (by decide +kernel)) (by decide +kernel)
theorem dX10_beginAgain_14 : decode cX10_beginAgain 14 = .ok (.aload_n 0, 1) := by decide +kernel
theorem dX10_beginAgain_15 : decode cX10_beginAgain 15 = .ok (.getfield 73, 3) := by decide +kernel
theorem dX10_beginAgain_18 : decode cX10_beginAgain 18 = .ok (.invokevirtual 299, 3) := by decide +kernel
theorem q_191 : (Jvm.Cond.code ({ cls := "Chipfold$Debts", name := "clear", desc := "()V" } : Jvm.MethodName) prog_2_method_2_code (1 : Nat) (Option.none : Option Jvm.ClassFile.FieldType)) ∈ WG := wg_3 (List.mem_of_getElem? (i := 120) rfl) rfl
theorem q_192 : (Jvm.Cond.selects "Chipfold$Debts" ({ cls := "Chipfold$Debts", name := "clear", desc := "()V" } : Jvm.MethodName) ({ cls := "Chipfold$Debts", name := "clear", desc := "()V" } : Jvm.MethodName)) ∈ WG := wg_3 (List.mem_of_getElem? (i := 119) (by decide +kernel)) (by decide +kernel)
theorem q_193 : (Jvm.Cond.methodLink "Chipfold" (299 : Nat) ({ cls := "Chipfold$Debts", name := "clear", desc := "()V" } : Jvm.MethodName)) ∈ WG := wg_3 (List.mem_of_getElem? (i := 117) (by decide +kernel)) (by decide +kernel)
theorem q_194 : (Jvm.Cond.instanceMethod ({ cls := "Chipfold$Debts", name := "clear", desc := "()V" } : Jvm.MethodName)) ∈ WG := wg_3 (List.mem_of_getElem? (i := 118) (by decide +kernel)) (by decide +kernel)
theorem dX10_beginAgain_21 : decode cX10_beginAgain 21 = .ok (.return_, 1) := by decide +kernel
theorem dX10_vertex_0 : decode cX10_vertex 0 = .ok (.aload_n 0, 1) := by decide +kernel
theorem dX10_vertex_1 : decode cX10_vertex 1 = .ok (.getfield 15, 3) := by decide +kernel
theorem dX10_vertex_4 : decode cX10_vertex 4 = .ok (.invokevirtual 84, 3) := by decide +kernel
theorem q_195 : (Jvm.Cond.methodLink "Chipfold" (84 : Nat) ({ cls := "Chipfold$Graph", name := "size", desc := "()I" } : Jvm.MethodName)) ∈ WG := wg_2 (List.mem_of_getElem? (i := 195) (by decide +kernel)) (by decide +kernel)
theorem dX10_vertex_7 : decode cX10_vertex 7 = .ok (.bipush 6, 2) := by decide +kernel
theorem dX10_vertex_9 : decode cX10_vertex 9 = .ok (.if_icmp .lt 13, 3) := by decide +kernel
theorem dX10_vertex_22 : decode cX10_vertex 22 = .ok (.aload_n 0, 1) := by decide +kernel
theorem dX10_vertex_23 : decode cX10_vertex 23 = .ok (.getfield 15, 3) := by decide +kernel
theorem dX10_vertex_26 : decode cX10_vertex 26 = .ok (.invokevirtual 95, 3) := by decide +kernel
theorem q_196 : (Jvm.Cond.code ({ cls := "Chipfold$Graph", name := "grow", desc := "()I" } : Jvm.MethodName) prog_5_method_4_code (2 : Nat) (Option.some Jvm.ClassFile.FieldType.int)) ∈ WG := wg_3 (List.mem_of_getElem? (i := 106) rfl) rfl
theorem q_197 : (Jvm.Cond.selects "Chipfold$Graph" ({ cls := "Chipfold$Graph", name := "grow", desc := "()I" } : Jvm.MethodName) ({ cls := "Chipfold$Graph", name := "grow", desc := "()I" } : Jvm.MethodName)) ∈ WG := wg_3 (List.mem_of_getElem? (i := 105) (by decide +kernel)) (by decide +kernel)
theorem q_198 : (Jvm.Cond.methodLink "Chipfold" (95 : Nat) ({ cls := "Chipfold$Graph", name := "grow", desc := "()I" } : Jvm.MethodName)) ∈ WG := wg_3 (List.mem_of_getElem? (i := 103) (by decide +kernel)) (by decide +kernel)
theorem q_199 : (Jvm.Cond.instanceMethod ({ cls := "Chipfold$Graph", name := "grow", desc := "()I" } : Jvm.MethodName)) ∈ WG := wg_3 (List.mem_of_getElem? (i := 104) (by decide +kernel)) (by decide +kernel)
theorem dX10_vertex_29 : decode cX10_vertex 29 = .ok (.istore_n 1, 1) := by decide +kernel
theorem dX10_vertex_30 : decode cX10_vertex 30 = .ok (.aload_n 0, 1) := by decide +kernel
theorem dX10_vertex_31 : decode cX10_vertex 31 = .ok (.invokevirtual 98, 3) := by decide +kernel
theorem q_200 : (Jvm.Cond.code ({ cls := "Chipfold", name := "beginAgain", desc := "()V" } : Jvm.MethodName) prog_1_method_38_code (1 : Nat) (Option.none : Option Jvm.ClassFile.FieldType)) ∈ WG := wg_3 (List.mem_of_getElem? (i := 110) rfl) rfl
theorem q_201 : (Jvm.Cond.initialized "Chipfold") ∈ WG := wg_1 (List.mem_of_getElem? (i := 1) (by decide +kernel)) (by decide +kernel)
theorem q_202 : (Jvm.Cond.selects "Chipfold" ({ cls := "Chipfold", name := "beginAgain", desc := "()V" } : Jvm.MethodName) ({ cls := "Chipfold", name := "beginAgain", desc := "()V" } : Jvm.MethodName)) ∈ WG := wg_0 (by decide +kernel) (by decide +kernel)
theorem q_203 : (Jvm.Cond.methodLink "Chipfold" (98 : Nat) ({ cls := "Chipfold", name := "beginAgain", desc := "()V" } : Jvm.MethodName)) ∈ WG := wg_3 (List.mem_of_getElem? (i := 107) (by decide +kernel)) (by decide +kernel)
theorem q_204 : (Jvm.Cond.instanceMethod ({ cls := "Chipfold", name := "beginAgain", desc := "()V" } : Jvm.MethodName)) ∈ WG := wg_3 (List.mem_of_getElem? (i := 109) (by decide +kernel)) (by decide +kernel)
theorem dX10_vertex_34 : decode cX10_vertex 34 = .ok (.iload_n 1, 1) := by decide +kernel
theorem dX10_vertex_35 : decode cX10_vertex 35 = .ok (.ireturn, 1) := by decide +kernel
theorem dX10_needVertex_0 : decode cX10_needVertex 0 = .ok (.aload_n 0, 1) := by decide +kernel
theorem dX10_needVertex_1 : decode cX10_needVertex 1 = .ok (.getfield 15, 3) := by decide +kernel
theorem dX10_needVertex_4 : decode cX10_needVertex 4 = .ok (.iload_n 1, 1) := by decide +kernel
theorem dX10_needVertex_5 : decode cX10_needVertex 5 = .ok (.invokevirtual 300, 3) := by decide +kernel
theorem q_205 : (Jvm.Cond.code ({ cls := "Chipfold$Graph", name := "has", desc := "(I)Z" } : Jvm.MethodName) prog_5_method_3_code (2 : Nat) (Option.some Jvm.ClassFile.FieldType.boolean)) ∈ WG := wg_3 (List.mem_of_getElem? (i := 160) rfl) rfl
theorem q_206 : (Jvm.Cond.selects "Chipfold$Graph" ({ cls := "Chipfold$Graph", name := "has", desc := "(I)Z" } : Jvm.MethodName) ({ cls := "Chipfold$Graph", name := "has", desc := "(I)Z" } : Jvm.MethodName)) ∈ WG := wg_3 (List.mem_of_getElem? (i := 159) (by decide +kernel)) (by decide +kernel)
theorem q_207 : (Jvm.Cond.methodLink "Chipfold" (300 : Nat) ({ cls := "Chipfold$Graph", name := "has", desc := "(I)Z" } : Jvm.MethodName)) ∈ WG := wg_3 (List.mem_of_getElem? (i := 157) (by decide +kernel)) (by decide +kernel)
theorem q_208 : (Jvm.Cond.instanceMethod ({ cls := "Chipfold$Graph", name := "has", desc := "(I)Z" } : Jvm.MethodName)) ∈ WG := wg_3 (List.mem_of_getElem? (i := 158) (by decide +kernel)) (by decide +kernel)
theorem dX10_needVertex_8 : decode cX10_needVertex 8 = .ok (.ifCond .ne 14, 3) := by decide +kernel
theorem dX10_needVertex_22 : decode cX10_needVertex 22 = .ok (.return_, 1) := by decide +kernel
theorem dX10_needWhole_0 : decode cX10_needWhole 0 = .ok (.aload_n 0, 1) := by decide +kernel
theorem dX10_needWhole_1 : decode cX10_needWhole 1 = .ok (.getfield 15, 3) := by decide +kernel
theorem dX10_needWhole_4 : decode cX10_needWhole 4 = .ok (.invokevirtual 129, 3) := by decide +kernel
theorem q_209 : (Jvm.Cond.code ({ cls := "Chipfold$Graph", name := "isConnected", desc := "()Z" } : Jvm.MethodName) prog_5_method_15_code (4 : Nat) (Option.some Jvm.ClassFile.FieldType.boolean)) ∈ WG := wg_2 (List.mem_of_getElem? (i := 26) rfl) rfl
theorem q_210 : (Jvm.Cond.selects "Chipfold$Graph" ({ cls := "Chipfold$Graph", name := "isConnected", desc := "()Z" } : Jvm.MethodName) ({ cls := "Chipfold$Graph", name := "isConnected", desc := "()Z" } : Jvm.MethodName)) ∈ WG := wg_2 (List.mem_of_getElem? (i := 25) (by decide +kernel)) (by decide +kernel)
theorem q_211 : (Jvm.Cond.methodLink "Chipfold" (129 : Nat) ({ cls := "Chipfold$Graph", name := "isConnected", desc := "()Z" } : Jvm.MethodName)) ∈ WG := wg_2 (List.mem_of_getElem? (i := 23) (by decide +kernel)) (by decide +kernel)
theorem q_212 : (Jvm.Cond.instanceMethod ({ cls := "Chipfold$Graph", name := "isConnected", desc := "()Z" } : Jvm.MethodName)) ∈ WG := wg_2 (List.mem_of_getElem? (i := 24) (by decide +kernel)) (by decide +kernel)
theorem dX10_needWhole_7 : decode cX10_needWhole 7 = .ok (.ifCond .ne 14, 3) := by decide +kernel
theorem dX10_needWhole_21 : decode cX10_needWhole 21 = .ok (.return_, 1) := by decide +kernel
theorem dX10_edges_0 : decode cX10_edges 0 = .ok (.aload_n 0, 1) := by decide +kernel
theorem dX10_edges_1 : decode cX10_edges 1 = .ok (.iload_n 1, 1) := by decide +kernel
theorem dX10_edges_2 : decode cX10_edges 2 = .ok (.invokevirtual 101, 3) := by decide +kernel
theorem q_213 : (Jvm.Cond.code ({ cls := "Chipfold", name := "needVertex", desc := "(I)V" } : Jvm.MethodName) prog_1_method_39_code (2 : Nat) (Option.none : Option Jvm.ClassFile.FieldType)) ∈ WG := wg_3 (List.mem_of_getElem? (i := 156) rfl) rfl
theorem q_214 : (Jvm.Cond.selects "Chipfold" ({ cls := "Chipfold", name := "needVertex", desc := "(I)V" } : Jvm.MethodName) ({ cls := "Chipfold", name := "needVertex", desc := "(I)V" } : Jvm.MethodName)) ∈ WG := wg_0 (by decide +kernel) (by decide +kernel)
theorem q_215 : (Jvm.Cond.methodLink "Chipfold" (101 : Nat) ({ cls := "Chipfold", name := "needVertex", desc := "(I)V" } : Jvm.MethodName)) ∈ WG := wg_3 (List.mem_of_getElem? (i := 153) (by decide +kernel)) (by decide +kernel)
theorem q_216 : (Jvm.Cond.instanceMethod ({ cls := "Chipfold", name := "needVertex", desc := "(I)V" } : Jvm.MethodName)) ∈ WG := wg_3 (List.mem_of_getElem? (i := 155) (by decide +kernel)) (by decide +kernel)
theorem dX10_edges_5 : decode cX10_edges 5 = .ok (.aload_n 0, 1) := by decide +kernel
theorem dX10_edges_6 : decode cX10_edges 6 = .ok (.iload_n 2, 1) := by decide +kernel
theorem dX10_edges_7 : decode cX10_edges 7 = .ok (.invokevirtual 101, 3) := by decide +kernel
theorem dX10_edges_10 : decode cX10_edges 10 = .ok (.iload_n 1, 1) := by decide +kernel
theorem dX10_edges_11 : decode cX10_edges 11 = .ok (.iload_n 2, 1) := by decide +kernel
theorem dX10_edges_12 : decode cX10_edges 12 = .ok (.if_icmp .ne 13, 3) := by decide +kernel
theorem dX10_edges_25 : decode cX10_edges 25 = .ok (.iload_n 3, 1) := by decide +kernel
theorem dX10_edges_26 : decode cX10_edges 26 = .ok (.ifCond .lt 8, 3) := by decide +kernel
theorem dX10_edges_29 : decode cX10_edges 29 = .ok (.iload_n 3, 1) := by decide +kernel
theorem dX10_edges_30 : decode cX10_edges 30 = .ok (.iconst 3, 1) := by decide +kernel
theorem dX10_edges_31 : decode cX10_edges 31 = .ok (.if_icmp .le 13, 3) := by decide +kernel
theorem dX10_edges_44 : decode cX10_edges 44 = .ok (.aload_n 0, 1) := by decide +kernel
theorem dX10_edges_45 : decode cX10_edges 45 = .ok (.getfield 15, 3) := by decide +kernel
theorem dX10_edges_48 : decode cX10_edges 48 = .ok (.iload_n 1, 1) := by decide +kernel
theorem dX10_edges_49 : decode cX10_edges 49 = .ok (.iload_n 2, 1) := by decide +kernel
theorem dX10_edges_50 : decode cX10_edges 50 = .ok (.invokevirtual 111, 3) := by decide +kernel
theorem q_217 : (Jvm.Cond.methodLink "Chipfold" (111 : Nat) ({ cls := "Chipfold$Graph", name := "between", desc := "(II)I" } : Jvm.MethodName)) ∈ WG := wg_3 (List.mem_of_getElem? (i := 191) (by decide +kernel)) (by decide +kernel)
theorem dX10_edges_53 : decode cX10_edges 53 = .ok (.istore 4, 2) := by decide +kernel
theorem dX10_edges_55 : decode cX10_edges 55 = .ok (.iload 4, 2) := by decide +kernel
theorem dX10_edges_57 : decode cX10_edges 57 = .ok (.iload_n 3, 1) := by decide +kernel
theorem dX10_edges_58 : decode cX10_edges 58 = .ok (.if_icmp .eq 17, 3) := by decide +kernel
theorem dX10_edges_61 : decode cX10_edges 61 = .ok (.aload_n 0, 1) := by decide +kernel
theorem dX10_edges_62 : decode cX10_edges 62 = .ok (.getfield 15, 3) := by decide +kernel
theorem dX10_edges_65 : decode cX10_edges 65 = .ok (.iload_n 1, 1) := by decide +kernel
theorem dX10_edges_66 : decode cX10_edges 66 = .ok (.iload_n 2, 1) := by decide +kernel
theorem dX10_edges_67 : decode cX10_edges 67 = .ok (.iload_n 3, 1) := by decide +kernel
theorem dX10_edges_68 : decode cX10_edges 68 = .ok (.invokevirtual 115, 3) := by decide +kernel
theorem q_218 : (Jvm.Cond.code ({ cls := "Chipfold$Graph", name := "join", desc := "(III)V" } : Jvm.MethodName) prog_5_method_6_code (4 : Nat) (Option.none : Option Jvm.ClassFile.FieldType)) ∈ WG := wg_3 (List.mem_of_getElem? (i := 195) rfl) rfl
theorem q_219 : (Jvm.Cond.selects "Chipfold$Graph" ({ cls := "Chipfold$Graph", name := "join", desc := "(III)V" } : Jvm.MethodName) ({ cls := "Chipfold$Graph", name := "join", desc := "(III)V" } : Jvm.MethodName)) ∈ WG := wg_3 (List.mem_of_getElem? (i := 194) (by decide +kernel)) (by decide +kernel)
theorem q_220 : (Jvm.Cond.methodLink "Chipfold" (115 : Nat) ({ cls := "Chipfold$Graph", name := "join", desc := "(III)V" } : Jvm.MethodName)) ∈ WG := wg_3 (List.mem_of_getElem? (i := 192) (by decide +kernel)) (by decide +kernel)
theorem q_221 : (Jvm.Cond.instanceMethod ({ cls := "Chipfold$Graph", name := "join", desc := "(III)V" } : Jvm.MethodName)) ∈ WG := wg_3 (List.mem_of_getElem? (i := 193) (by decide +kernel)) (by decide +kernel)
theorem dX10_edges_71 : decode cX10_edges 71 = .ok (.aload_n 0, 1) := by decide +kernel
theorem dX10_edges_72 : decode cX10_edges 72 = .ok (.invokevirtual 98, 3) := by decide +kernel
theorem dX10_edges_75 : decode cX10_edges 75 = .ok (.iload 4, 2) := by decide +kernel
theorem dX10_edges_77 : decode cX10_edges 77 = .ok (.ireturn, 1) := by decide +kernel
theorem dX10_put_0 : decode cX10_put 0 = .ok (.aload_n 0, 1) := by decide +kernel
theorem dX10_put_1 : decode cX10_put 1 = .ok (.iload_n 1, 1) := by decide +kernel
theorem dX10_put_2 : decode cX10_put 2 = .ok (.invokevirtual 101, 3) := by decide +kernel
theorem dX10_put_5 : decode cX10_put 5 = .ok (.iload_n 2, 1) := by decide +kernel
theorem dX10_put_6 : decode cX10_put 6 = .ok (.iconst 1, 1) := by decide +kernel
theorem dX10_put_7 : decode cX10_put 7 = .ok (.if_icmp .lt 10, 3) := by decide +kernel
theorem dX10_put_10 : decode cX10_put 10 = .ok (.iload_n 2, 1) := by decide +kernel
theorem dX10_put_11 : decode cX10_put 11 = .ok (.sipush 200, 3) := by decide +kernel
theorem dX10_put_14 : decode cX10_put 14 = .ok (.if_icmp .le 13, 3) := by decide +kernel
theorem dX10_put_27 : decode cX10_put 27 = .ok (.aload_n 0, 1) := by decide +kernel
theorem dX10_put_28 : decode cX10_put 28 = .ok (.getfield 15, 3) := by decide +kernel
theorem dX10_put_31 : decode cX10_put 31 = .ok (.iload_n 1, 1) := by decide +kernel
theorem dX10_put_32 : decode cX10_put 32 = .ok (.invokevirtual 135, 3) := by decide +kernel
theorem q_222 : (Jvm.Cond.methodLink "Chipfold" (135 : Nat) ({ cls := "Chipfold$Graph", name := "isSink", desc := "(I)Z" } : Jvm.MethodName)) ∈ WG := wg_3 (List.mem_of_getElem? (i := 231) (by decide +kernel)) (by decide +kernel)
theorem dX10_put_35 : decode cX10_put 35 = .ok (.ifCond .ne 29, 3) := by decide +kernel
theorem dX10_put_38 : decode cX10_put 38 = .ok (.aload_n 0, 1) := by decide +kernel
theorem dX10_put_39 : decode cX10_put 39 = .ok (.getfield 28, 3) := by decide +kernel
theorem dX10_put_42 : decode cX10_put 42 = .ok (.iload_n 1, 1) := by decide +kernel
theorem dX10_put_43 : decode cX10_put 43 = .ok (.invokevirtual 139, 3) := by decide +kernel
theorem q_223 : (Jvm.Cond.code ({ cls := "Chipfold$Pile", name := "at", desc := "(I)I" } : Jvm.MethodName) prog_8_method_5_code (2 : Nat) (Option.some Jvm.ClassFile.FieldType.int)) ∈ WG := wg_2 (List.mem_of_getElem? (i := 237) rfl) rfl
theorem q_224 : (Jvm.Cond.selects "Chipfold$Pile" ({ cls := "Chipfold$Pile", name := "at", desc := "(I)I" } : Jvm.MethodName) ({ cls := "Chipfold$Pile", name := "at", desc := "(I)I" } : Jvm.MethodName)) ∈ WG := wg_2 (List.mem_of_getElem? (i := 236) (by decide +kernel)) (by decide +kernel)
theorem q_225 : (Jvm.Cond.methodLink "Chipfold" (139 : Nat) ({ cls := "Chipfold$Pile", name := "at", desc := "(I)I" } : Jvm.MethodName)) ∈ WG := wg_3 (List.mem_of_getElem? (i := 232) (by decide +kernel)) (by decide +kernel)
theorem q_226 : (Jvm.Cond.instanceMethod ({ cls := "Chipfold$Pile", name := "at", desc := "(I)I" } : Jvm.MethodName)) ∈ WG := wg_2 (List.mem_of_getElem? (i := 235) (by decide +kernel)) (by decide +kernel)
theorem dX10_put_46 : decode cX10_put 46 = .ok (.iload_n 2, 1) := by decide +kernel
theorem dX10_put_47 : decode cX10_put 47 = .ok (.iadd, 1) := by decide +kernel
theorem dX10_put_48 : decode cX10_put 48 = .ok (.sipush 2000, 3) := by decide +kernel
theorem dX10_put_51 : decode cX10_put 51 = .ok (.if_icmp .le 13, 3) := by decide +kernel
theorem dX10_put_64 : decode cX10_put 64 = .ok (.aload_n 0, 1) := by decide +kernel
theorem dX10_put_65 : decode cX10_put 65 = .ok (.getfield 28, 3) := by decide +kernel
theorem dX10_put_68 : decode cX10_put 68 = .ok (.iload_n 1, 1) := by decide +kernel
theorem dX10_put_69 : decode cX10_put 69 = .ok (.iload_n 2, 1) := by decide +kernel
theorem dX10_put_70 : decode cX10_put 70 = .ok (.invokevirtual 144, 3) := by decide +kernel
theorem q_227 : (Jvm.Cond.code ({ cls := "Chipfold$Pile", name := "receive", desc := "(II)V" } : Jvm.MethodName) prog_8_method_9_code (3 : Nat) (Option.none : Option Jvm.ClassFile.FieldType)) ∈ WG := wg_2 (List.mem_of_getElem? (i := 227) rfl) rfl
theorem q_228 : (Jvm.Cond.selects "Chipfold$Pile" ({ cls := "Chipfold$Pile", name := "receive", desc := "(II)V" } : Jvm.MethodName) ({ cls := "Chipfold$Pile", name := "receive", desc := "(II)V" } : Jvm.MethodName)) ∈ WG := wg_2 (List.mem_of_getElem? (i := 226) (by decide +kernel)) (by decide +kernel)
theorem q_229 : (Jvm.Cond.methodLink "Chipfold" (144 : Nat) ({ cls := "Chipfold$Pile", name := "receive", desc := "(II)V" } : Jvm.MethodName)) ∈ WG := wg_3 (List.mem_of_getElem? (i := 234) (by decide +kernel)) (by decide +kernel)
theorem q_230 : (Jvm.Cond.instanceMethod ({ cls := "Chipfold$Pile", name := "receive", desc := "(II)V" } : Jvm.MethodName)) ∈ WG := wg_2 (List.mem_of_getElem? (i := 225) (by decide +kernel)) (by decide +kernel)
theorem dX10_put_73 : decode cX10_put 73 = .ok (.aload_n 0, 1) := by decide +kernel
theorem dX10_put_74 : decode cX10_put 74 = .ok (.getfield 28, 3) := by decide +kernel
theorem dX10_put_77 : decode cX10_put 77 = .ok (.iload_n 1, 1) := by decide +kernel
theorem dX10_put_78 : decode cX10_put 78 = .ok (.invokevirtual 139, 3) := by decide +kernel
theorem dX10_put_81 : decode cX10_put 81 = .ok (.ireturn, 1) := by decide +kernel
theorem dX10_waves_0 : decode cX10_waves 0 = .ok (.aload_n 0, 1) := by decide +kernel
theorem dX10_waves_1 : decode cX10_waves 1 = .ok (.invokevirtual 159, 3) := by decide +kernel
theorem q_231 : (Jvm.Cond.code ({ cls := "Chipfold", name := "needWhole", desc := "()V" } : Jvm.MethodName) prog_1_method_40_code (1 : Nat) (Option.none : Option Jvm.ClassFile.FieldType)) ∈ WG := wg_4 (List.mem_of_getElem? (i := 38) rfl) rfl
theorem q_232 : (Jvm.Cond.selects "Chipfold" ({ cls := "Chipfold", name := "needWhole", desc := "()V" } : Jvm.MethodName) ({ cls := "Chipfold", name := "needWhole", desc := "()V" } : Jvm.MethodName)) ∈ WG := wg_0 (by decide +kernel) (by decide +kernel)
theorem q_233 : (Jvm.Cond.methodLink "Chipfold" (159 : Nat) ({ cls := "Chipfold", name := "needWhole", desc := "()V" } : Jvm.MethodName)) ∈ WG := wg_4 (List.mem_of_getElem? (i := 35) (by decide +kernel)) (by decide +kernel)
theorem q_234 : (Jvm.Cond.instanceMethod ({ cls := "Chipfold", name := "needWhole", desc := "()V" } : Jvm.MethodName)) ∈ WG := wg_4 (List.mem_of_getElem? (i := 37) (by decide +kernel)) (by decide +kernel)
theorem dX10_waves_4 : decode cX10_waves 4 = .ok (.aload_n 0, 1) := by decide +kernel
theorem dX10_waves_5 : decode cX10_waves 5 = .ok (.getfield 32, 3) := by decide +kernel
theorem dX10_waves_8 : decode cX10_waves 8 = .ok (.aload_n 0, 1) := by decide +kernel
theorem dX10_waves_9 : decode cX10_waves 9 = .ok (.getfield 28, 3) := by decide +kernel
theorem dX10_waves_12 : decode cX10_waves 12 = .ok (.invokevirtual 166, 3) := by decide +kernel
theorem q_235 : (Jvm.Cond.code ({ cls := "Chipfold$Pile", name := "copyChips", desc := "(LChipfold$Pile;)V" } : Jvm.MethodName) prog_8_method_3_code (2 : Nat) (Option.none : Option Jvm.ClassFile.FieldType)) ∈ WG := wg_2 (List.mem_of_getElem? (i := 139) rfl) rfl
theorem q_236 : (Jvm.Cond.selects "Chipfold$Pile" ({ cls := "Chipfold$Pile", name := "copyChips", desc := "(LChipfold$Pile;)V" } : Jvm.MethodName) ({ cls := "Chipfold$Pile", name := "copyChips", desc := "(LChipfold$Pile;)V" } : Jvm.MethodName)) ∈ WG := wg_2 (List.mem_of_getElem? (i := 138) (by decide +kernel)) (by decide +kernel)
theorem q_237 : (Jvm.Cond.methodLink "Chipfold" (166 : Nat) ({ cls := "Chipfold$Pile", name := "copyChips", desc := "(LChipfold$Pile;)V" } : Jvm.MethodName)) ∈ WG := wg_2 (List.mem_of_getElem? (i := 136) (by decide +kernel)) (by decide +kernel)
theorem q_238 : (Jvm.Cond.instanceMethod ({ cls := "Chipfold$Pile", name := "copyChips", desc := "(LChipfold$Pile;)V" } : Jvm.MethodName)) ∈ WG := wg_2 (List.mem_of_getElem? (i := 137) (by decide +kernel)) (by decide +kernel)
theorem dX10_waves_15 : decode cX10_waves 15 = .ok (.iconst 0, 1) := by decide +kernel
theorem dX10_waves_16 : decode cX10_waves 16 = .ok (.istore_n 1, 1) := by decide +kernel
theorem dX10_waves_17 : decode cX10_waves 17 = .ok (.iload_n 1, 1) := by decide +kernel
theorem dX10_waves_18 : decode cX10_waves 18 = .ok (.ldc 170, 2) := by decide +kernel
theorem q_239 : (Jvm.Cond.constant "Chipfold" (170 : Nat) (1000000 : Int32)) ∈ WG := wg_4 (List.mem_of_getElem? (i := 47) (by decide +kernel)) (by decide +kernel)
theorem dX10_waves_20 : decode cX10_waves 20 = .ok (.if_icmp .ge 19, 3) := by decide +kernel
theorem dX10_waves_23 : decode cX10_waves 23 = .ok (.aload_n 0, 1) := by decide +kernel
theorem dX10_waves_24 : decode cX10_waves 24 = .ok (.getfield 32, 3) := by decide +kernel
theorem dX10_waves_27 : decode cX10_waves 27 = .ok (.invokevirtual 171, 3) := by decide +kernel
theorem q_240 : (Jvm.Cond.code ({ cls := "Chipfold$Pile", name := "toppleWave", desc := "()Z" } : Jvm.MethodName) prog_8_method_14_code (3 : Nat) (Option.some Jvm.ClassFile.FieldType.boolean)) ∈ WG := wg_4 (List.mem_of_getElem? (i := 51) rfl) rfl
theorem q_241 : (Jvm.Cond.selects "Chipfold$Pile" ({ cls := "Chipfold$Pile", name := "toppleWave", desc := "()Z" } : Jvm.MethodName) ({ cls := "Chipfold$Pile", name := "toppleWave", desc := "()Z" } : Jvm.MethodName)) ∈ WG := wg_4 (List.mem_of_getElem? (i := 50) (by decide +kernel)) (by decide +kernel)
theorem q_242 : (Jvm.Cond.methodLink "Chipfold" (171 : Nat) ({ cls := "Chipfold$Pile", name := "toppleWave", desc := "()Z" } : Jvm.MethodName)) ∈ WG := wg_4 (List.mem_of_getElem? (i := 48) (by decide +kernel)) (by decide +kernel)
theorem q_243 : (Jvm.Cond.instanceMethod ({ cls := "Chipfold$Pile", name := "toppleWave", desc := "()Z" } : Jvm.MethodName)) ∈ WG := wg_4 (List.mem_of_getElem? (i := 49) (by decide +kernel)) (by decide +kernel)
theorem dX10_waves_30 : decode cX10_waves 30 = .ok (.ifCond .eq 9, 3) := by decide +kernel
theorem dX10_waves_39 : decode cX10_waves 39 = .ok (.iload_n 1, 1) := by decide +kernel
theorem dX10_waves_40 : decode cX10_waves 40 = .ok (.ireturn, 1) := by decide +kernel
theorem dX10_waves_33 : decode cX10_waves 33 = .ok (.iinc 1 1, 3) := by decide +kernel
theorem dX10_waves_36 : decode cX10_waves 36 = .ok (.goto (-19), 3) := by decide +kernel
set_option maxRecDepth 100000 in
set_option maxHeartbeats 400000 in
theorem c_X10_beginAgain {l : Launch} {D : va_G} {k : Nat → ClassId} (o : Nat) (h : Nat) (pp : Nat) (x2 : Nat) (x3 : Nat) (x4 : Nat) (o2 : Nat) (o4 : Nat) (o9 : Nat) (o7 : Nat) (o0 : Nat) (o1 : Nat) (r1 : Nat) (a1 : Nat) (r2 : Nat) (a2 : Nat) (f : Nat → Int32) (ct : Nat → Int32) (tk : Int32) (s1 : Nat) (b1 : Nat) (s2 : Nat) (b2 : Nat) (f7 : Nat → Int32) (g7 : Nat → Int32) (t1 : Nat) (t2 : Nat) (t3 : Nat) (t4 : Nat) (t5 : Nat) (u1 : Nat) (f0 : Nat → Int32)  : CM l D k yX10_beginAgain cX10_beginAgain 1 none  2 42 [.ref o] [(o, .inr (14, [.ref h, .ref pp, .ref x2, .ref x3, .ref x4, .ref o2, .ref o4, .ref o9, .ref o7, .ref o0, .ref o1])), (pp, .inr (10, [.ref h, .ref r1, .ref r2, .int tk])), (r1, .inr (12, [.ref a1])), (a1, aI k 6 f), (r2, .inr (12, [.ref a2])), (a2, aI k 6 ct), (o7, .inr (11, [.ref h, .ref s1, .ref s2])), (s1, .inr (12, [.ref b1])), (b1, aI k 6 f7), (s2, .inr (12, [.ref b2])), (b2, aI k 6 g7), (o0, .inr (4, [.ref h, .ref o2, .ref t1, .ref t2, .ref t3, .ref t4, .ref t5])), (t1, .inr (12, [.ref u1])), (u1, aI k 6 f0)] (is1 none [(o, .inr (14, [.ref h, .ref pp, .ref x2, .ref x3, .ref x4, .ref o2, .ref o4, .ref o9, .ref o7, .ref o0, .ref o1])), (pp, .inr (10, [.ref h, .ref r1, .ref r2, .int 0])), (r1, .inr (12, [.ref a1])), (a1, aI k 6 (fun _ => 0)), (r2, .inr (12, [.ref a2])), (a2, aI k 6 (fun _ => 0)), (o7, .inr (11, [.ref h, .ref s1, .ref s2])), (s1, .inr (12, [.ref b1])), (b1, aI k 6 (fun _ => 0)), (s2, .inr (12, [.ref b2])), (b2, aI k 6 (fun _ => 0)), (o0, .inr (4, [.ref h, .ref o2, .ref t1, .ref t2, .ref t3, .ref t4, .ref t5])), (t1, .inr (12, [.ref u1])), (u1, aI k 6 (fun _ => 0))]) 0 0 0 := by
  refine CM.of (lv0 := [(0, .ref o)]) (by decide +kernel) (Nat.le_of_ble_eq_true rfl) rfl ?_
  intro p e s m below meth c C hr hlk hin had
  refine g_aload_n (pc := 0) C 0 rfl rfl dX10_beginAgain_0 ?_
  refine g_get (pc := 1) C (T := TX10) inX10 0 rfl rfl 1 (by decide) q_147 rfl rfl dX10_beginAgain_1 ?_
  refine g_callV (pc := 4) (cells := 0) (slots := 0) (g := 0) (As := []) (st := []) (T := TX6) (q0 := 1) C (nA := 0) rfl (c_X6_clear h pp r1 a1 r2 a2 f ct tk ) q_186 q_46 q_44 q_43 q_42 (by decide +kernel) rfl rfl dX10_beginAgain_4 ⟨Nat.le_of_ble_eq_true rfl, Nat.le_of_ble_eq_true rfl⟩ [1, 2, 3, 4, 5] [0, 6, 7, 8, 9, 10, 11, 12, 13] rfl (wr := [(o, .inr (14, [.ref h, .ref pp, .ref x2, .ref x3, .ref x4, .ref o2, .ref o4, .ref o9, .ref o7, .ref o0, .ref o1])), (o7, .inr (11, [.ref h, .ref s1, .ref s2])), (s1, .inr (12, [.ref b1])), (b1, aI k 6 f7), (s2, .inr (12, [.ref b2])), (b2, aI k 6 g7), (o0, .inr (4, [.ref h, .ref o2, .ref t1, .ref t2, .ref t3, .ref t4, .ref t5])), (t1, .inr (12, [.ref u1])), (u1, aI k 6 f0)]) rfl (by decide) (by decide) (by decide) (Nat.le_of_ble_eq_true rfl) ⟨Nat.le_of_ble_eq_true rfl, Nat.le_of_ble_eq_true rfl⟩ (fun rv w1 h1 => ?_)
  obtain ⟨rfl, rfl⟩ := h1
  refine G.aft [0, 9, 10, 11, 12, 13, 1, 2, 3, 4, 5, 6, 7, 8] (ws' := [(o, .inr (14, [.ref h, .ref pp, .ref x2, .ref x3, .ref x4, .ref o2, .ref o4, .ref o9, .ref o7, .ref o0, .ref o1])), (pp, .inr (10, [.ref h, .ref r1, .ref r2, .int 0])), (r1, .inr (12, [.ref a1])), (a1, aI k 6 (fun _ => 0)), (r2, .inr (12, [.ref a2])), (a2, aI k 6 (fun _ => 0)), (o7, .inr (11, [.ref h, .ref s1, .ref s2])), (s1, .inr (12, [.ref b1])), (b1, aI k 6 f7), (s2, .inr (12, [.ref b2])), (b2, aI k 6 g7), (o0, .inr (4, [.ref h, .ref o2, .ref t1, .ref t2, .ref t3, .ref t4, .ref t5])), (t1, .inr (12, [.ref u1])), (u1, aI k 6 f0)]) (st' := []) (cells' := 0) (slots' := 0) (g' := 0) (by decide) rfl rfl rfl rfl rfl ?_
  refine g_aload_n (pc := 7) C 0 rfl rfl dX10_beginAgain_7 ?_
  refine g_get (pc := 8) C (T := TX10) inX10 0 rfl rfl 8 (by decide) q_172 rfl rfl dX10_beginAgain_8 ?_
  refine g_callV (pc := 11) (cells := 0) (slots := 0) (g := 0) (As := []) (st := []) (T := TX7) (q0 := 6) C (nA := 0) rfl (c_X7_clear o7 h s1 b1 s2 b2 f7 g7 ) q_189 q_190 q_188 q_168 q_187 (by decide +kernel) rfl rfl dX10_beginAgain_11 ⟨Nat.le_of_ble_eq_true rfl, Nat.le_of_ble_eq_true rfl⟩ [6, 7, 8, 9, 10] [0, 1, 2, 3, 4, 5, 11, 12, 13] rfl (wr := [(o, .inr (14, [.ref h, .ref pp, .ref x2, .ref x3, .ref x4, .ref o2, .ref o4, .ref o9, .ref o7, .ref o0, .ref o1])), (pp, .inr (10, [.ref h, .ref r1, .ref r2, .int 0])), (r1, .inr (12, [.ref a1])), (a1, aI k 6 (fun _ => 0)), (r2, .inr (12, [.ref a2])), (a2, aI k 6 (fun _ => 0)), (o0, .inr (4, [.ref h, .ref o2, .ref t1, .ref t2, .ref t3, .ref t4, .ref t5])), (t1, .inr (12, [.ref u1])), (u1, aI k 6 f0)]) rfl (by decide) (by decide) (by decide) (Nat.le_of_ble_eq_true rfl) ⟨Nat.le_of_ble_eq_true rfl, Nat.le_of_ble_eq_true rfl⟩ (fun rv w1 h1 => ?_)
  obtain ⟨rfl, rfl⟩ := h1
  refine G.aft [0, 1, 2, 3, 4, 5, 9, 10, 11, 12, 13, 6, 7, 8] (ws' := [(o, .inr (14, [.ref h, .ref pp, .ref x2, .ref x3, .ref x4, .ref o2, .ref o4, .ref o9, .ref o7, .ref o0, .ref o1])), (pp, .inr (10, [.ref h, .ref r1, .ref r2, .int 0])), (r1, .inr (12, [.ref a1])), (a1, aI k 6 (fun _ => 0)), (r2, .inr (12, [.ref a2])), (a2, aI k 6 (fun _ => 0)), (o7, .inr (11, [.ref h, .ref s1, .ref s2])), (s1, .inr (12, [.ref b1])), (b1, aI k 6 (fun _ => 0)), (s2, .inr (12, [.ref b2])), (b2, aI k 6 (fun _ => 0)), (o0, .inr (4, [.ref h, .ref o2, .ref t1, .ref t2, .ref t3, .ref t4, .ref t5])), (t1, .inr (12, [.ref u1])), (u1, aI k 6 f0)]) (st' := []) (cells' := 0) (slots' := 0) (g' := 0) (by decide) rfl rfl rfl rfl rfl ?_
  refine g_aload_n (pc := 14) C 0 rfl rfl dX10_beginAgain_14 ?_
  refine g_get (pc := 15) C (T := TX10) inX10 0 rfl rfl 9 (by decide) q_179 rfl rfl dX10_beginAgain_15 ?_
  refine g_callV (pc := 18) (cells := 0) (slots := 0) (g := 0) (As := []) (st := []) (T := TX0) (q0 := 11) C (nA := 0) rfl (c_X0_clear o0 h o2 t1 t2 t3 t4 t5 u1 f0 ) q_193 q_194 q_192 q_175 q_191 (by decide +kernel) rfl rfl dX10_beginAgain_18 ⟨Nat.le_of_ble_eq_true rfl, Nat.le_of_ble_eq_true rfl⟩ [11, 12, 13] [0, 1, 2, 3, 4, 5, 6, 7, 8, 9, 10] rfl (wr := [(o, .inr (14, [.ref h, .ref pp, .ref x2, .ref x3, .ref x4, .ref o2, .ref o4, .ref o9, .ref o7, .ref o0, .ref o1])), (pp, .inr (10, [.ref h, .ref r1, .ref r2, .int 0])), (r1, .inr (12, [.ref a1])), (a1, aI k 6 (fun _ => 0)), (r2, .inr (12, [.ref a2])), (a2, aI k 6 (fun _ => 0)), (o7, .inr (11, [.ref h, .ref s1, .ref s2])), (s1, .inr (12, [.ref b1])), (b1, aI k 6 (fun _ => 0)), (s2, .inr (12, [.ref b2])), (b2, aI k 6 (fun _ => 0))]) rfl (by decide) (by decide) (by decide) (Nat.le_of_ble_eq_true rfl) ⟨Nat.le_of_ble_eq_true rfl, Nat.le_of_ble_eq_true rfl⟩ (fun rv w1 h1 => ?_)
  obtain ⟨rfl, rfl⟩ := h1
  refine G.aft [0, 1, 2, 3, 4, 5, 6, 7, 8, 9, 10, 11, 12, 13] (ws' := [(o, .inr (14, [.ref h, .ref pp, .ref x2, .ref x3, .ref x4, .ref o2, .ref o4, .ref o9, .ref o7, .ref o0, .ref o1])), (pp, .inr (10, [.ref h, .ref r1, .ref r2, .int 0])), (r1, .inr (12, [.ref a1])), (a1, aI k 6 (fun _ => 0)), (r2, .inr (12, [.ref a2])), (a2, aI k 6 (fun _ => 0)), (o7, .inr (11, [.ref h, .ref s1, .ref s2])), (s1, .inr (12, [.ref b1])), (b1, aI k 6 (fun _ => 0)), (s2, .inr (12, [.ref b2])), (b2, aI k 6 (fun _ => 0)), (o0, .inr (4, [.ref h, .ref o2, .ref t1, .ref t2, .ref t3, .ref t4, .ref t5])), (t1, .inr (12, [.ref u1])), (u1, aI k 6 (fun _ => 0))]) (st' := []) (cells' := 0) (slots' := 0) (g' := 0) (by decide) rfl rfl rfl rfl rfl ?_
  exact g_vret (pc := 21) C hr hlk (by first | decide | omega) (by first | decide | omega) (by first | decide | omega) dX10_beginAgain_21 ⟨rfl, rfl⟩
set_option maxRecDepth 100000 in
set_option maxHeartbeats 400000 in
theorem c_X10_vertex {l : Launch} {D : va_G} {k : Nat → ClassId} (o : Nat) (h : Nat) (pp : Nat) (x2 : Nat) (x3 : Nat) (x4 : Nat) (o2 : Nat) (o4 : Nat) (o9 : Nat) (o7 : Nat) (o0 : Nat) (o1 : Nat) (jj : Nat) (dd : Nat) (n : Nat) (z : Nat) (fj : Nat → Int32) (fd : Nat → Int32) (r1 : Nat) (a1 : Nat) (r2 : Nat) (a2 : Nat) (f : Nat → Int32) (ct : Nat → Int32) (tk : Int32) (s1 : Nat) (b1 : Nat) (s2 : Nat) (b2 : Nat) (f7 : Nat → Int32) (g7 : Nat → Int32) (t1 : Nat) (t2 : Nat) (t3 : Nat) (t4 : Nat) (t5 : Nat) (u1 : Nat) (f0 : Nat → Int32) (hn : n < 6) : CM l D k yX10_vertex cX10_vertex 2 (some .int)  3 62 [.ref o] [(o, .inr (14, [.ref h, .ref pp, .ref x2, .ref x3, .ref x4, .ref o2, .ref o4, .ref o9, .ref o7, .ref o0, .ref o1])), (h, .inr (7, [.ref jj, .ref dd, .int (nI n), .int (nI z)])), (jj, aI k 36 fj), (dd, aI k 6 fd), (pp, .inr (10, [.ref h, .ref r1, .ref r2, .int tk])), (r1, .inr (12, [.ref a1])), (a1, aI k 6 f), (r2, .inr (12, [.ref a2])), (a2, aI k 6 ct), (o7, .inr (11, [.ref h, .ref s1, .ref s2])), (s1, .inr (12, [.ref b1])), (b1, aI k 6 f7), (s2, .inr (12, [.ref b2])), (b2, aI k 6 g7), (o0, .inr (4, [.ref h, .ref o2, .ref t1, .ref t2, .ref t3, .ref t4, .ref t5])), (t1, .inr (12, [.ref u1])), (u1, aI k 6 f0)] (is1 (some (.int (nI n))) [(o, .inr (14, [.ref h, .ref pp, .ref x2, .ref x3, .ref x4, .ref o2, .ref o4, .ref o9, .ref o7, .ref o0, .ref o1])), (h, .inr (7, [.ref jj, .ref dd, .int (nI (n + 1)), .int (nI z)])), (jj, aI k 36 fj), (dd, aI k 6 fd), (pp, .inr (10, [.ref h, .ref r1, .ref r2, .int 0])), (r1, .inr (12, [.ref a1])), (a1, aI k 6 (fun _ => 0)), (r2, .inr (12, [.ref a2])), (a2, aI k 6 (fun _ => 0)), (o7, .inr (11, [.ref h, .ref s1, .ref s2])), (s1, .inr (12, [.ref b1])), (b1, aI k 6 (fun _ => 0)), (s2, .inr (12, [.ref b2])), (b2, aI k 6 (fun _ => 0)), (o0, .inr (4, [.ref h, .ref o2, .ref t1, .ref t2, .ref t3, .ref t4, .ref t5])), (t1, .inr (12, [.ref u1])), (u1, aI k 6 (fun _ => 0))]) 0 0 0 := by
  refine CM.of (lv0 := [(0, .ref o)]) (by decide +kernel) (Nat.le_of_ble_eq_true rfl) rfl ?_
  intro p e s m below meth c C hr hlk hin had
  refine g_aload_n (pc := 0) C 0 rfl rfl dX10_vertex_0 ?_
  refine g_get (pc := 1) C (T := TX10) inX10 0 rfl rfl 0 (by decide) q_143 rfl rfl dX10_vertex_1 ?_
  refine g_callV (pc := 4) (cells := 0) (slots := 0) (g := 0) (As := []) (st := []) (T := TX3) (q0 := 1) C (nA := 0) rfl (c_X3_size h jj dd n z fj fd ) q_195 q_67 q_65 q_16 q_64 (by decide +kernel) rfl rfl dX10_vertex_4 ⟨Nat.le_of_ble_eq_true rfl, Nat.le_of_ble_eq_true rfl⟩ [1, 2, 3] [0, 4, 5, 6, 7, 8, 9, 10, 11, 12, 13, 14, 15, 16] rfl (wr := [(o, .inr (14, [.ref h, .ref pp, .ref x2, .ref x3, .ref x4, .ref o2, .ref o4, .ref o9, .ref o7, .ref o0, .ref o1])), (pp, .inr (10, [.ref h, .ref r1, .ref r2, .int tk])), (r1, .inr (12, [.ref a1])), (a1, aI k 6 f), (r2, .inr (12, [.ref a2])), (a2, aI k 6 ct), (o7, .inr (11, [.ref h, .ref s1, .ref s2])), (s1, .inr (12, [.ref b1])), (b1, aI k 6 f7), (s2, .inr (12, [.ref b2])), (b2, aI k 6 g7), (o0, .inr (4, [.ref h, .ref o2, .ref t1, .ref t2, .ref t3, .ref t4, .ref t5])), (t1, .inr (12, [.ref u1])), (u1, aI k 6 f0)]) rfl (by decide) (by decide) (by decide) (Nat.le_of_ble_eq_true rfl) ⟨Nat.le_of_ble_eq_true rfl, Nat.le_of_ble_eq_true rfl⟩ (fun rv w1 h1 => ?_)
  obtain ⟨rfl, rfl⟩ := h1
  refine G.aft [0, 14, 15, 16, 1, 2, 3, 4, 5, 6, 7, 8, 9, 10, 11, 12, 13] (ws' := [(o, .inr (14, [.ref h, .ref pp, .ref x2, .ref x3, .ref x4, .ref o2, .ref o4, .ref o9, .ref o7, .ref o0, .ref o1])), (h, .inr (7, [.ref jj, .ref dd, .int (nI n), .int (nI z)])), (jj, aI k 36 fj), (dd, aI k 6 fd), (pp, .inr (10, [.ref h, .ref r1, .ref r2, .int tk])), (r1, .inr (12, [.ref a1])), (a1, aI k 6 f), (r2, .inr (12, [.ref a2])), (a2, aI k 6 ct), (o7, .inr (11, [.ref h, .ref s1, .ref s2])), (s1, .inr (12, [.ref b1])), (b1, aI k 6 f7), (s2, .inr (12, [.ref b2])), (b2, aI k 6 g7), (o0, .inr (4, [.ref h, .ref o2, .ref t1, .ref t2, .ref t3, .ref t4, .ref t5])), (t1, .inr (12, [.ref u1])), (u1, aI k 6 f0)]) (st' := [.int (nI n)]) (cells' := 0) (slots' := 0) (g' := 0) (by decide) rfl rfl rfl rfl rfl ?_
  refine g_bipush (pc := 7) (v := 6) C (by decide) dX10_vertex_7 ?_
  refine g_icmp_lt (pc := 9) C 22 (by decide) dX10_vertex_9 (fun c_9 => ?_) (fun c_9 => ?_)
  · refine g_aload_n (pc := 22) C 0 rfl rfl dX10_vertex_22 ?_
    refine g_get (pc := 23) C (T := TX10) inX10 0 rfl rfl 0 (by decide) q_143 rfl rfl dX10_vertex_23 ?_
    refine g_callV (pc := 26) (cells := 0) (slots := 0) (g := 0) (As := []) (st := []) (T := TX3) (q0 := 1) C (nA := 0) rfl (c_X3_grow h jj dd n z fj fd ) q_198 q_199 q_197 q_16 q_196 (by decide +kernel) rfl rfl dX10_vertex_26 ⟨Nat.le_of_ble_eq_true rfl, Nat.le_of_ble_eq_true rfl⟩ [1, 2, 3] [0, 4, 5, 6, 7, 8, 9, 10, 11, 12, 13, 14, 15, 16] rfl (wr := [(o, .inr (14, [.ref h, .ref pp, .ref x2, .ref x3, .ref x4, .ref o2, .ref o4, .ref o9, .ref o7, .ref o0, .ref o1])), (pp, .inr (10, [.ref h, .ref r1, .ref r2, .int tk])), (r1, .inr (12, [.ref a1])), (a1, aI k 6 f), (r2, .inr (12, [.ref a2])), (a2, aI k 6 ct), (o7, .inr (11, [.ref h, .ref s1, .ref s2])), (s1, .inr (12, [.ref b1])), (b1, aI k 6 f7), (s2, .inr (12, [.ref b2])), (b2, aI k 6 g7), (o0, .inr (4, [.ref h, .ref o2, .ref t1, .ref t2, .ref t3, .ref t4, .ref t5])), (t1, .inr (12, [.ref u1])), (u1, aI k 6 f0)]) rfl (by decide) (by decide) (by decide) (Nat.le_of_ble_eq_true rfl) ⟨Nat.le_of_ble_eq_true rfl, Nat.le_of_ble_eq_true rfl⟩ (fun rv w1 h1 => ?_)
    obtain ⟨rfl, rfl⟩ := h1
    refine G.aft [0, 14, 15, 16, 1, 2, 3, 4, 5, 6, 7, 8, 9, 10, 11, 12, 13] (ws' := [(o, .inr (14, [.ref h, .ref pp, .ref x2, .ref x3, .ref x4, .ref o2, .ref o4, .ref o9, .ref o7, .ref o0, .ref o1])), (h, .inr (7, [.ref jj, .ref dd, .int (nI (n + 1)), .int (nI z)])), (jj, aI k 36 fj), (dd, aI k 6 fd), (pp, .inr (10, [.ref h, .ref r1, .ref r2, .int tk])), (r1, .inr (12, [.ref a1])), (a1, aI k 6 f), (r2, .inr (12, [.ref a2])), (a2, aI k 6 ct), (o7, .inr (11, [.ref h, .ref s1, .ref s2])), (s1, .inr (12, [.ref b1])), (b1, aI k 6 f7), (s2, .inr (12, [.ref b2])), (b2, aI k 6 g7), (o0, .inr (4, [.ref h, .ref o2, .ref t1, .ref t2, .ref t3, .ref t4, .ref t5])), (t1, .inr (12, [.ref u1])), (u1, aI k 6 f0)]) (st' := [.int (nI n)]) (cells' := 0) (slots' := 0) (g' := 0) (by decide) rfl rfl rfl rfl rfl ?_
    refine g_istore_n (pc := 29) C [(1, .int (nI n)), (0, .ref o)] rfl dX10_vertex_29 (by decide) rfl ?_
    refine g_aload_n (pc := 30) C 1 rfl rfl dX10_vertex_30 ?_
    refine g_callV (pc := 31) (cells := 0) (slots := 0) (g := 0) (As := []) (st := []) (T := TX10) (q0 := 0) C (nA := 0) rfl (c_X10_beginAgain o h pp x2 x3 x4 o2 o4 o9 o7 o0 o1 r1 a1 r2 a2 f ct tk s1 b1 s2 b2 f7 g7 t1 t2 t3 t4 t5 u1 f0 ) q_203 q_204 q_202 q_201 q_200 (by decide +kernel) rfl rfl dX10_vertex_31 ⟨Nat.le_of_ble_eq_true rfl, Nat.le_of_ble_eq_true rfl⟩ [0, 4, 5, 6, 7, 8, 9, 10, 11, 12, 13, 14, 15, 16] [1, 2, 3] rfl (wr := [(h, .inr (7, [.ref jj, .ref dd, .int (nI (n + 1)), .int (nI z)])), (jj, aI k 36 fj), (dd, aI k 6 fd)]) rfl (by decide) (by decide) (by decide) (Nat.le_of_ble_eq_true rfl) ⟨Nat.le_of_ble_eq_true rfl, Nat.le_of_ble_eq_true rfl⟩ (fun rv w1 h1 => ?_)
    obtain ⟨rfl, rfl⟩ := h1
    refine G.aft [3, 0, 1, 2, 4, 5, 6, 7, 8, 9, 10, 11, 12, 13, 14, 15, 16] (ws' := [(o, .inr (14, [.ref h, .ref pp, .ref x2, .ref x3, .ref x4, .ref o2, .ref o4, .ref o9, .ref o7, .ref o0, .ref o1])), (h, .inr (7, [.ref jj, .ref dd, .int (nI (n + 1)), .int (nI z)])), (jj, aI k 36 fj), (dd, aI k 6 fd), (pp, .inr (10, [.ref h, .ref r1, .ref r2, .int 0])), (r1, .inr (12, [.ref a1])), (a1, aI k 6 (fun _ => 0)), (r2, .inr (12, [.ref a2])), (a2, aI k 6 (fun _ => 0)), (o7, .inr (11, [.ref h, .ref s1, .ref s2])), (s1, .inr (12, [.ref b1])), (b1, aI k 6 (fun _ => 0)), (s2, .inr (12, [.ref b2])), (b2, aI k 6 (fun _ => 0)), (o0, .inr (4, [.ref h, .ref o2, .ref t1, .ref t2, .ref t3, .ref t4, .ref t5])), (t1, .inr (12, [.ref u1])), (u1, aI k 6 (fun _ => 0))]) (st' := []) (cells' := 0) (slots' := 0) (g' := 0) (by decide) rfl rfl rfl rfl rfl ?_
    refine g_iload_n (pc := 34) C 0 rfl rfl dX10_vertex_34 ?_
    exact g_iret (pc := 35) C hr hlk (by first | decide | omega) (by first | decide | omega) (by first | decide | omega) dX10_vertex_35 ⟨rfl, rfl⟩
  · exact absurd (show nI n < nI 6 from nI_lt hn (by omega)) c_9
set_option maxRecDepth 100000 in
set_option maxHeartbeats 400000 in
theorem c_X10_needVertex {l : Launch} {D : va_G} {k : Nat → ClassId} (o : Nat) (h : Nat) (pp : Nat) (x2 : Nat) (x3 : Nat) (x4 : Nat) (o2 : Nat) (o4 : Nat) (o9 : Nat) (o7 : Nat) (o0 : Nat) (o1 : Nat) (jj : Nat) (dd : Nat) (n : Nat) (z : Nat) (fj : Nat → Int32) (fd : Nat → Int32) (v : Nat) (hn : n ≤ 6) (hv : v < n) : CM l D k yX10_needVertex cX10_needVertex 2 none  1 21 [.ref o, .int (nI v)] [(o, .inr (14, [.ref h, .ref pp, .ref x2, .ref x3, .ref x4, .ref o2, .ref o4, .ref o9, .ref o7, .ref o0, .ref o1])), (h, .inr (7, [.ref jj, .ref dd, .int (nI n), .int (nI z)])), (jj, aI k 36 fj), (dd, aI k 6 fd)] (is1 none [(o, .inr (14, [.ref h, .ref pp, .ref x2, .ref x3, .ref x4, .ref o2, .ref o4, .ref o9, .ref o7, .ref o0, .ref o1])), (h, .inr (7, [.ref jj, .ref dd, .int (nI n), .int (nI z)])), (jj, aI k 36 fj), (dd, aI k 6 fd)]) 0 0 0 := by
  refine CM.of (lv0 := [(0, .ref o), (1, .int (nI v))]) (by decide +kernel) (Nat.le_of_ble_eq_true rfl) rfl ?_
  intro p e s m below meth c C hr hlk hin had
  refine g_aload_n (pc := 0) C 0 rfl rfl dX10_needVertex_0 ?_
  refine g_get (pc := 1) C (T := TX10) inX10 0 rfl rfl 0 (by decide) q_143 rfl rfl dX10_needVertex_1 ?_
  refine g_iload_n (pc := 4) C 1 rfl rfl dX10_needVertex_4 ?_
  refine g_callV (pc := 5) (cells := 0) (slots := 0) (g := 0) (As := [.int (nI v)]) (st := []) (T := TX3) (q0 := 1) C (nA := 1) rfl (c_X3_has h jj dd n z fj fd (nI v) ) q_207 q_208 q_206 q_16 q_205 (by decide +kernel) rfl rfl dX10_needVertex_5 ⟨Nat.le_of_ble_eq_true rfl, Nat.le_of_ble_eq_true rfl⟩ [1, 2, 3] [0] rfl (wr := [(o, .inr (14, [.ref h, .ref pp, .ref x2, .ref x3, .ref x4, .ref o2, .ref o4, .ref o9, .ref o7, .ref o0, .ref o1]))]) rfl (by decide) (by decide) (by decide) (Nat.le_of_ble_eq_true rfl) ⟨Nat.le_of_ble_eq_true rfl, Nat.le_of_ble_eq_true rfl⟩ (fun rv w1 h1 => ?_)
  obtain ⟨rfl, rfl⟩ := h1
  refine G.aft [0, 1, 2, 3] (ws' := [(o, .inr (14, [.ref h, .ref pp, .ref x2, .ref x3, .ref x4, .ref o2, .ref o4, .ref o9, .ref o7, .ref o0, .ref o1])), (h, .inr (7, [.ref jj, .ref dd, .int (nI n), .int (nI z)])), (jj, aI k 36 fj), (dd, aI k 6 fd)]) (st' := [.int (bI (gHas n (nI v)))]) (cells' := 0) (slots' := 0) (g' := 0) (by decide) rfl rfl rfl rfl rfl ?_
  refine g_if_ne (pc := 8) C 22 (by decide) dX10_needVertex_8 (fun c_8 => ?_) (fun c_8 => ?_)
  · exact g_vret (pc := 22) C hr hlk (by first | decide | omega) (by first | decide | omega) (by first | decide | omega) dX10_needVertex_22 ⟨rfl, rfl⟩
  · exact absurd c_8 (by simp [bI_0, gHas, nI_pos (show v < 2 ^ 31 by omega), nI_ge hv (show n < 2 ^ 31 by omega)])
set_option maxRecDepth 100000 in
set_option maxHeartbeats 400000 in
theorem c_X10_needWhole {l : Launch} {D : va_G} {k : Nat → ClassId} (o : Nat) (h : Nat) (pp : Nat) (x2 : Nat) (x3 : Nat) (x4 : Nat) (o2 : Nat) (o4 : Nat) (o9 : Nat) (o7 : Nat) (o0 : Nat) (o1 : Nat) (jj : Nat) (dd : Nat) (n : Nat) (z : Nat) (fj : Nat → Int32) (fd : Nat → Int32) (hn : n ≤ 6) (hw : gConn fj n = true) : CM l D k yX10_needWhole cX10_needWhole 1 none  3 70 [.ref o] [(o, .inr (14, [.ref h, .ref pp, .ref x2, .ref x3, .ref x4, .ref o2, .ref o4, .ref o9, .ref o7, .ref o0, .ref o1])), (h, .inr (7, [.ref jj, .ref dd, .int (nI n), .int (nI z)])), (jj, aI k 36 fj), (dd, aI k 6 fd)] (is1 none [(o, .inr (14, [.ref h, .ref pp, .ref x2, .ref x3, .ref x4, .ref o2, .ref o4, .ref o9, .ref o7, .ref o0, .ref o1])), (h, .inr (7, [.ref jj, .ref dd, .int (nI n), .int (nI z)])), (jj, aI k 36 fj), (dd, aI k 6 fd)]) 0 0 0 := by
  refine CM.of (lv0 := [(0, .ref o)]) (by decide +kernel) (Nat.le_of_ble_eq_true rfl) rfl ?_
  intro p e s m below meth c C hr hlk hin had
  refine g_aload_n (pc := 0) C 0 rfl rfl dX10_needWhole_0 ?_
  refine g_get (pc := 1) C (T := TX10) inX10 0 rfl rfl 0 (by decide) q_143 rfl rfl dX10_needWhole_1 ?_
  refine g_callV (pc := 4) (cells := 0) (slots := 0) (g := 0) (As := []) (st := []) (T := TX3) (q0 := 1) C (nA := 0) rfl (c_X3_isConnected h jj dd n z fj fd (by first | assumption | decide | omega)) q_211 q_212 q_210 q_16 q_209 (by decide +kernel) rfl rfl dX10_needWhole_4 ⟨Nat.le_of_ble_eq_true rfl, Nat.le_of_ble_eq_true rfl⟩ [1, 2, 3] [0] rfl (wr := [(o, .inr (14, [.ref h, .ref pp, .ref x2, .ref x3, .ref x4, .ref o2, .ref o4, .ref o9, .ref o7, .ref o0, .ref o1]))]) rfl (by decide) (by decide) (by decide) (Nat.le_of_ble_eq_true rfl) ⟨Nat.le_of_ble_eq_true rfl, Nat.le_of_ble_eq_true rfl⟩ (fun rv w1 h1 => ?_)
  obtain ⟨rfl, rfl⟩ := h1
  refine G.aft [0, 1, 2, 3] (ws' := [(o, .inr (14, [.ref h, .ref pp, .ref x2, .ref x3, .ref x4, .ref o2, .ref o4, .ref o9, .ref o7, .ref o0, .ref o1])), (h, .inr (7, [.ref jj, .ref dd, .int (nI n), .int (nI z)])), (jj, aI k 36 fj), (dd, aI k 6 fd)]) (st' := [.int (bI (gConn fj n))]) (cells' := 0) (slots' := 0) (g' := 0) (by decide) rfl rfl rfl rfl rfl ?_
  refine g_if_ne (pc := 7) C 21 (by decide) dX10_needWhole_7 (fun c_7 => ?_) (fun c_7 => ?_)
  · exact g_vret (pc := 21) C hr hlk (by first | decide | omega) (by first | decide | omega) (by first | decide | omega) dX10_needWhole_21 ⟨rfl, rfl⟩
  · exact absurd c_7 (by simp [bI_0, hw])
set_option maxRecDepth 100000 in
set_option maxHeartbeats 400000 in
theorem c_X10_edges {l : Launch} {D : va_G} {k : Nat → ClassId} (o : Nat) (h : Nat) (pp : Nat) (x2 : Nat) (x3 : Nat) (x4 : Nat) (o2 : Nat) (o4 : Nat) (o9 : Nat) (o7 : Nat) (o0 : Nat) (o1 : Nat) (jj : Nat) (dd : Nat) (n : Nat) (z : Nat) (fj : Nat → Int32) (fd : Nat → Int32) (r1 : Nat) (a1 : Nat) (r2 : Nat) (a2 : Nat) (f : Nat → Int32) (ct : Nat → Int32) (tk : Int32) (s1 : Nat) (b1 : Nat) (s2 : Nat) (b2 : Nat) (f7 : Nat → Int32) (g7 : Nat → Int32) (t1 : Nat) (t2 : Nat) (t3 : Nat) (t4 : Nat) (t5 : Nat) (u1 : Nat) (f0 : Nat → Int32) (v : Nat) (w : Nat) (y : Nat) (hn : n ≤ 6) (hv : v < n) (hw : w < n) (hvw : ¬ v = w) (hy : y ≤ 3) (hch : ¬ fj (v * 6 + w) = nI y) : CM l D k yX10_edges cX10_edges 5 (some .int)  3 62 [.ref o, .int (nI v), .int (nI w), .int (nI y)] [(o, .inr (14, [.ref h, .ref pp, .ref x2, .ref x3, .ref x4, .ref o2, .ref o4, .ref o9, .ref o7, .ref o0, .ref o1])), (h, .inr (7, [.ref jj, .ref dd, .int (nI n), .int (nI z)])), (jj, aI k 36 fj), (dd, aI k 6 fd), (pp, .inr (10, [.ref h, .ref r1, .ref r2, .int tk])), (r1, .inr (12, [.ref a1])), (a1, aI k 6 f), (r2, .inr (12, [.ref a2])), (a2, aI k 6 ct), (o7, .inr (11, [.ref h, .ref s1, .ref s2])), (s1, .inr (12, [.ref b1])), (b1, aI k 6 f7), (s2, .inr (12, [.ref b2])), (b2, aI k 6 g7), (o0, .inr (4, [.ref h, .ref o2, .ref t1, .ref t2, .ref t3, .ref t4, .ref t5])), (t1, .inr (12, [.ref u1])), (u1, aI k 6 f0)] (is1 (some (.int (fj (v * 6 + w)))) [(o, .inr (14, [.ref h, .ref pp, .ref x2, .ref x3, .ref x4, .ref o2, .ref o4, .ref o9, .ref o7, .ref o0, .ref o1])), (h, .inr (7, [.ref jj, .ref dd, .int (nI n), .int (nI z)])), (jj, aI k 36 (jnJ fj v w (nI y))), (dd, aI k 6 (jnD fj fd v w (nI y))), (pp, .inr (10, [.ref h, .ref r1, .ref r2, .int 0])), (r1, .inr (12, [.ref a1])), (a1, aI k 6 (fun _ => 0)), (r2, .inr (12, [.ref a2])), (a2, aI k 6 (fun _ => 0)), (o7, .inr (11, [.ref h, .ref s1, .ref s2])), (s1, .inr (12, [.ref b1])), (b1, aI k 6 (fun _ => 0)), (s2, .inr (12, [.ref b2])), (b2, aI k 6 (fun _ => 0)), (o0, .inr (4, [.ref h, .ref o2, .ref t1, .ref t2, .ref t3, .ref t4, .ref t5])), (t1, .inr (12, [.ref u1])), (u1, aI k 6 (fun _ => 0))]) 0 0 0 := by
  refine CM.of (lv0 := [(0, .ref o), (1, .int (nI v)), (2, .int (nI w)), (3, .int (nI y))]) (by decide +kernel) (Nat.le_of_ble_eq_true rfl) rfl ?_
  intro p e s m below meth c C hr hlk hin had
  refine g_aload_n (pc := 0) C 0 rfl rfl dX10_edges_0 ?_
  refine g_iload_n (pc := 1) C 1 rfl rfl dX10_edges_1 ?_
  refine g_callV (pc := 2) (cells := 0) (slots := 0) (g := 0) (As := [.int (nI v)]) (st := []) (T := TX10) (q0 := 0) C (nA := 1) rfl (c_X10_needVertex o h pp x2 x3 x4 o2 o4 o9 o7 o0 o1 jj dd n z fj fd v (by first | assumption | decide | omega) (by first | assumption | decide | omega)) q_215 q_216 q_214 q_201 q_213 (by decide +kernel) rfl rfl dX10_edges_2 ⟨Nat.le_of_ble_eq_true rfl, Nat.le_of_ble_eq_true rfl⟩ [0, 1, 2, 3] [4, 5, 6, 7, 8, 9, 10, 11, 12, 13, 14, 15, 16] rfl (wr := [(pp, .inr (10, [.ref h, .ref r1, .ref r2, .int tk])), (r1, .inr (12, [.ref a1])), (a1, aI k 6 f), (r2, .inr (12, [.ref a2])), (a2, aI k 6 ct), (o7, .inr (11, [.ref h, .ref s1, .ref s2])), (s1, .inr (12, [.ref b1])), (b1, aI k 6 f7), (s2, .inr (12, [.ref b2])), (b2, aI k 6 g7), (o0, .inr (4, [.ref h, .ref o2, .ref t1, .ref t2, .ref t3, .ref t4, .ref t5])), (t1, .inr (12, [.ref u1])), (u1, aI k 6 f0)]) rfl (by decide) (by decide) (by decide) (Nat.le_of_ble_eq_true rfl) ⟨Nat.le_of_ble_eq_true rfl, Nat.le_of_ble_eq_true rfl⟩ (fun rv w1 h1 => ?_)
  obtain ⟨rfl, rfl⟩ := h1
  refine G.aft [13, 14, 15, 16, 0, 1, 2, 3, 4, 5, 6, 7, 8, 9, 10, 11, 12] (ws' := [(o, .inr (14, [.ref h, .ref pp, .ref x2, .ref x3, .ref x4, .ref o2, .ref o4, .ref o9, .ref o7, .ref o0, .ref o1])), (h, .inr (7, [.ref jj, .ref dd, .int (nI n), .int (nI z)])), (jj, aI k 36 fj), (dd, aI k 6 fd), (pp, .inr (10, [.ref h, .ref r1, .ref r2, .int tk])), (r1, .inr (12, [.ref a1])), (a1, aI k 6 f), (r2, .inr (12, [.ref a2])), (a2, aI k 6 ct), (o7, .inr (11, [.ref h, .ref s1, .ref s2])), (s1, .inr (12, [.ref b1])), (b1, aI k 6 f7), (s2, .inr (12, [.ref b2])), (b2, aI k 6 g7), (o0, .inr (4, [.ref h, .ref o2, .ref t1, .ref t2, .ref t3, .ref t4, .ref t5])), (t1, .inr (12, [.ref u1])), (u1, aI k 6 f0)]) (st' := []) (cells' := 0) (slots' := 0) (g' := 0) (by decide) rfl rfl rfl rfl rfl ?_
  refine g_aload_n (pc := 5) C 0 rfl rfl dX10_edges_5 ?_
  refine g_iload_n (pc := 6) C 2 rfl rfl dX10_edges_6 ?_
  refine g_callV (pc := 7) (cells := 0) (slots := 0) (g := 0) (As := [.int (nI w)]) (st := []) (T := TX10) (q0 := 0) C (nA := 1) rfl (c_X10_needVertex o h pp x2 x3 x4 o2 o4 o9 o7 o0 o1 jj dd n z fj fd w (by first | assumption | decide | omega) (by first | assumption | decide | omega)) q_215 q_216 q_214 q_201 q_213 (by decide +kernel) rfl rfl dX10_edges_7 ⟨Nat.le_of_ble_eq_true rfl, Nat.le_of_ble_eq_true rfl⟩ [0, 1, 2, 3] [4, 5, 6, 7, 8, 9, 10, 11, 12, 13, 14, 15, 16] rfl (wr := [(pp, .inr (10, [.ref h, .ref r1, .ref r2, .int tk])), (r1, .inr (12, [.ref a1])), (a1, aI k 6 f), (r2, .inr (12, [.ref a2])), (a2, aI k 6 ct), (o7, .inr (11, [.ref h, .ref s1, .ref s2])), (s1, .inr (12, [.ref b1])), (b1, aI k 6 f7), (s2, .inr (12, [.ref b2])), (b2, aI k 6 g7), (o0, .inr (4, [.ref h, .ref o2, .ref t1, .ref t2, .ref t3, .ref t4, .ref t5])), (t1, .inr (12, [.ref u1])), (u1, aI k 6 f0)]) rfl (by decide) (by decide) (by decide) (Nat.le_of_ble_eq_true rfl) ⟨Nat.le_of_ble_eq_true rfl, Nat.le_of_ble_eq_true rfl⟩ (fun rv w1 h1 => ?_)
  obtain ⟨rfl, rfl⟩ := h1
  refine G.aft [13, 14, 15, 16, 0, 1, 2, 3, 4, 5, 6, 7, 8, 9, 10, 11, 12] (ws' := [(o, .inr (14, [.ref h, .ref pp, .ref x2, .ref x3, .ref x4, .ref o2, .ref o4, .ref o9, .ref o7, .ref o0, .ref o1])), (h, .inr (7, [.ref jj, .ref dd, .int (nI n), .int (nI z)])), (jj, aI k 36 fj), (dd, aI k 6 fd), (pp, .inr (10, [.ref h, .ref r1, .ref r2, .int tk])), (r1, .inr (12, [.ref a1])), (a1, aI k 6 f), (r2, .inr (12, [.ref a2])), (a2, aI k 6 ct), (o7, .inr (11, [.ref h, .ref s1, .ref s2])), (s1, .inr (12, [.ref b1])), (b1, aI k 6 f7), (s2, .inr (12, [.ref b2])), (b2, aI k 6 g7), (o0, .inr (4, [.ref h, .ref o2, .ref t1, .ref t2, .ref t3, .ref t4, .ref t5])), (t1, .inr (12, [.ref u1])), (u1, aI k 6 f0)]) (st' := []) (cells' := 0) (slots' := 0) (g' := 0) (by decide) rfl rfl rfl rfl rfl ?_
  refine g_iload_n (pc := 10) C 1 rfl rfl dX10_edges_10 ?_
  refine g_iload_n (pc := 11) C 2 rfl rfl dX10_edges_11 ?_
  refine g_icmp_ne (pc := 12) C 25 (by decide) dX10_edges_12 (fun c_12 => ?_) (fun c_12 => ?_)
  · refine g_iload_n (pc := 25) C 3 rfl rfl dX10_edges_25 ?_
    refine g_if_lt (pc := 26) C 34 (by decide) dX10_edges_26 (fun c_26 => ?_) (fun c_26 => ?_)
    · exact absurd c_26 (nI_pos (by omega))
    · refine g_iload_n (pc := 29) C 3 rfl rfl dX10_edges_29 ?_
      refine g_iconst (pc := 30) (v := 3) C (by decide) dX10_edges_30 ?_
      refine g_icmp_le (pc := 31) C 44 (by decide) dX10_edges_31 (fun c_31 => ?_) (fun c_31 => ?_)
      · refine g_aload_n (pc := 44) C 0 rfl rfl dX10_edges_44 ?_
        refine g_get (pc := 45) C (T := TX10) inX10 0 rfl rfl 0 (by decide) q_143 rfl rfl dX10_edges_45 ?_
        refine g_iload_n (pc := 48) C 1 rfl rfl dX10_edges_48 ?_
        refine g_iload_n (pc := 49) C 2 rfl rfl dX10_edges_49 ?_
        refine g_callV (pc := 50) (cells := 0) (slots := 0) (g := 0) (As := [.int (nI v), .int (nI w)]) (st := []) (T := TX3) (q0 := 1) C (nA := 2) rfl (c_X3_between h jj dd n z fj fd v w (by first | assumption | decide | omega) (by first | assumption | decide | omega) (by first | assumption | decide | omega)) q_217 q_23 q_21 q_16 q_20 (by decide +kernel) rfl rfl dX10_edges_50 ⟨Nat.le_of_ble_eq_true rfl, Nat.le_of_ble_eq_true rfl⟩ [1, 2, 3] [0, 4, 5, 6, 7, 8, 9, 10, 11, 12, 13, 14, 15, 16] rfl (wr := [(o, .inr (14, [.ref h, .ref pp, .ref x2, .ref x3, .ref x4, .ref o2, .ref o4, .ref o9, .ref o7, .ref o0, .ref o1])), (pp, .inr (10, [.ref h, .ref r1, .ref r2, .int tk])), (r1, .inr (12, [.ref a1])), (a1, aI k 6 f), (r2, .inr (12, [.ref a2])), (a2, aI k 6 ct), (o7, .inr (11, [.ref h, .ref s1, .ref s2])), (s1, .inr (12, [.ref b1])), (b1, aI k 6 f7), (s2, .inr (12, [.ref b2])), (b2, aI k 6 g7), (o0, .inr (4, [.ref h, .ref o2, .ref t1, .ref t2, .ref t3, .ref t4, .ref t5])), (t1, .inr (12, [.ref u1])), (u1, aI k 6 f0)]) rfl (by decide) (by decide) (by decide) (Nat.le_of_ble_eq_true rfl) ⟨Nat.le_of_ble_eq_true rfl, Nat.le_of_ble_eq_true rfl⟩ (fun rv w1 h1 => ?_)
        obtain ⟨rfl, rfl⟩ := h1
        refine G.aft [0, 14, 15, 16, 1, 2, 3, 4, 5, 6, 7, 8, 9, 10, 11, 12, 13] (ws' := [(o, .inr (14, [.ref h, .ref pp, .ref x2, .ref x3, .ref x4, .ref o2, .ref o4, .ref o9, .ref o7, .ref o0, .ref o1])), (h, .inr (7, [.ref jj, .ref dd, .int (nI n), .int (nI z)])), (jj, aI k 36 fj), (dd, aI k 6 fd), (pp, .inr (10, [.ref h, .ref r1, .ref r2, .int tk])), (r1, .inr (12, [.ref a1])), (a1, aI k 6 f), (r2, .inr (12, [.ref a2])), (a2, aI k 6 ct), (o7, .inr (11, [.ref h, .ref s1, .ref s2])), (s1, .inr (12, [.ref b1])), (b1, aI k 6 f7), (s2, .inr (12, [.ref b2])), (b2, aI k 6 g7), (o0, .inr (4, [.ref h, .ref o2, .ref t1, .ref t2, .ref t3, .ref t4, .ref t5])), (t1, .inr (12, [.ref u1])), (u1, aI k 6 f0)]) (st' := [.int (fj (v * 6 + w))]) (cells' := 0) (slots' := 0) (g' := 0) (by decide) rfl rfl rfl rfl rfl ?_
        refine g_istore (pc := 53) C [(4, .int (fj (v * 6 + w))), (0, .ref o), (1, .int (nI v)), (2, .int (nI w)), (3, .int (nI y))] dX10_edges_53 (by decide) rfl ?_
        refine g_iload (pc := 55) C 0 rfl dX10_edges_55 ?_
        refine g_iload_n (pc := 57) C 4 rfl rfl dX10_edges_57 ?_
        refine g_icmp_eq (pc := 58) C 75 (by decide) dX10_edges_58 (fun c_58 => ?_) (fun c_58 => ?_)
        · exact absurd c_58 hch
        · refine g_aload_n (pc := 61) C 1 rfl rfl dX10_edges_61 ?_
          refine g_get (pc := 62) C (T := TX10) inX10 0 rfl rfl 0 (by decide) q_143 rfl rfl dX10_edges_62 ?_
          refine g_iload_n (pc := 65) C 2 rfl rfl dX10_edges_65 ?_
          refine g_iload_n (pc := 66) C 3 rfl rfl dX10_edges_66 ?_
          refine g_iload_n (pc := 67) C 4 rfl rfl dX10_edges_67 ?_
          refine g_callV (pc := 68) (cells := 0) (slots := 0) (g := 0) (As := [.int (nI v), .int (nI w), .int (nI y)]) (st := []) (T := TX3) (q0 := 1) C (nA := 3) rfl (c_X3_join h jj dd n z fj fd v w (nI y) (by first | assumption | decide | omega) (by first | assumption | decide | omega) (by first | assumption | decide | omega)) q_220 q_221 q_219 q_16 q_218 (by decide +kernel) rfl rfl dX10_edges_68 ⟨Nat.le_of_ble_eq_true rfl, Nat.le_of_ble_eq_true rfl⟩ [1, 2, 3] [0, 4, 5, 6, 7, 8, 9, 10, 11, 12, 13, 14, 15, 16] rfl (wr := [(o, .inr (14, [.ref h, .ref pp, .ref x2, .ref x3, .ref x4, .ref o2, .ref o4, .ref o9, .ref o7, .ref o0, .ref o1])), (pp, .inr (10, [.ref h, .ref r1, .ref r2, .int tk])), (r1, .inr (12, [.ref a1])), (a1, aI k 6 f), (r2, .inr (12, [.ref a2])), (a2, aI k 6 ct), (o7, .inr (11, [.ref h, .ref s1, .ref s2])), (s1, .inr (12, [.ref b1])), (b1, aI k 6 f7), (s2, .inr (12, [.ref b2])), (b2, aI k 6 g7), (o0, .inr (4, [.ref h, .ref o2, .ref t1, .ref t2, .ref t3, .ref t4, .ref t5])), (t1, .inr (12, [.ref u1])), (u1, aI k 6 f0)]) rfl (by decide) (by decide) (by decide) (Nat.le_of_ble_eq_true rfl) ⟨Nat.le_of_ble_eq_true rfl, Nat.le_of_ble_eq_true rfl⟩ (fun rv w1 h1 => ?_)
          obtain ⟨rfl, rfl⟩ := h1
          refine G.aft [0, 14, 15, 16, 1, 2, 3, 4, 5, 6, 7, 8, 9, 10, 11, 12, 13] (ws' := [(o, .inr (14, [.ref h, .ref pp, .ref x2, .ref x3, .ref x4, .ref o2, .ref o4, .ref o9, .ref o7, .ref o0, .ref o1])), (h, .inr (7, [.ref jj, .ref dd, .int (nI n), .int (nI z)])), (jj, aI k 36 (jnJ fj v w (nI y))), (dd, aI k 6 (jnD fj fd v w (nI y))), (pp, .inr (10, [.ref h, .ref r1, .ref r2, .int tk])), (r1, .inr (12, [.ref a1])), (a1, aI k 6 f), (r2, .inr (12, [.ref a2])), (a2, aI k 6 ct), (o7, .inr (11, [.ref h, .ref s1, .ref s2])), (s1, .inr (12, [.ref b1])), (b1, aI k 6 f7), (s2, .inr (12, [.ref b2])), (b2, aI k 6 g7), (o0, .inr (4, [.ref h, .ref o2, .ref t1, .ref t2, .ref t3, .ref t4, .ref t5])), (t1, .inr (12, [.ref u1])), (u1, aI k 6 f0)]) (st' := []) (cells' := 0) (slots' := 0) (g' := 0) (by decide) rfl rfl rfl rfl rfl ?_
          refine g_aload_n (pc := 71) C 1 rfl rfl dX10_edges_71 ?_
          refine g_callV (pc := 72) (cells := 0) (slots := 0) (g := 0) (As := []) (st := []) (T := TX10) (q0 := 0) C (nA := 0) rfl (c_X10_beginAgain o h pp x2 x3 x4 o2 o4 o9 o7 o0 o1 r1 a1 r2 a2 f ct tk s1 b1 s2 b2 f7 g7 t1 t2 t3 t4 t5 u1 f0 ) q_203 q_204 q_202 q_201 q_200 (by decide +kernel) rfl rfl dX10_edges_72 ⟨Nat.le_of_ble_eq_true rfl, Nat.le_of_ble_eq_true rfl⟩ [0, 4, 5, 6, 7, 8, 9, 10, 11, 12, 13, 14, 15, 16] [1, 2, 3] rfl (wr := [(h, .inr (7, [.ref jj, .ref dd, .int (nI n), .int (nI z)])), (jj, aI k 36 (jnJ fj v w (nI y))), (dd, aI k 6 (jnD fj fd v w (nI y)))]) rfl (by decide) (by decide) (by decide) (Nat.le_of_ble_eq_true rfl) ⟨Nat.le_of_ble_eq_true rfl, Nat.le_of_ble_eq_true rfl⟩ (fun rv w1 h1 => ?_)
          obtain ⟨rfl, rfl⟩ := h1
          refine G.aft [3, 0, 1, 2, 4, 5, 6, 7, 8, 9, 10, 11, 12, 13, 14, 15, 16] (ws' := [(o, .inr (14, [.ref h, .ref pp, .ref x2, .ref x3, .ref x4, .ref o2, .ref o4, .ref o9, .ref o7, .ref o0, .ref o1])), (h, .inr (7, [.ref jj, .ref dd, .int (nI n), .int (nI z)])), (jj, aI k 36 (jnJ fj v w (nI y))), (dd, aI k 6 (jnD fj fd v w (nI y))), (pp, .inr (10, [.ref h, .ref r1, .ref r2, .int 0])), (r1, .inr (12, [.ref a1])), (a1, aI k 6 (fun _ => 0)), (r2, .inr (12, [.ref a2])), (a2, aI k 6 (fun _ => 0)), (o7, .inr (11, [.ref h, .ref s1, .ref s2])), (s1, .inr (12, [.ref b1])), (b1, aI k 6 (fun _ => 0)), (s2, .inr (12, [.ref b2])), (b2, aI k 6 (fun _ => 0)), (o0, .inr (4, [.ref h, .ref o2, .ref t1, .ref t2, .ref t3, .ref t4, .ref t5])), (t1, .inr (12, [.ref u1])), (u1, aI k 6 (fun _ => 0))]) (st' := []) (cells' := 0) (slots' := 0) (g' := 0) (by decide) rfl rfl rfl rfl rfl ?_
          refine g_iload (pc := 75) C 0 rfl dX10_edges_75 ?_
          exact g_iret (pc := 77) C hr hlk (by first | decide | omega) (by first | decide | omega) (by first | decide | omega) dX10_edges_77 ⟨rfl, rfl⟩
      · exact absurd (show nI y ≤ nI 3 from nI_le hy (by omega)) c_31
  · exact absurd ((nI_eq (by omega) (by omega)).mp c_12) hvw
set_option maxRecDepth 100000 in
set_option maxHeartbeats 400000 in
theorem c_X10_put {l : Launch} {D : va_G} {k : Nat → ClassId} (o : Nat) (h : Nat) (pp : Nat) (x2 : Nat) (x3 : Nat) (x4 : Nat) (o2 : Nat) (o4 : Nat) (o9 : Nat) (o7 : Nat) (o0 : Nat) (o1 : Nat) (jj : Nat) (dd : Nat) (n : Nat) (z : Nat) (fj : Nat → Int32) (fd : Nat → Int32) (r1 : Nat) (a1 : Nat) (r2 : Nat) (a2 : Nat) (f : Nat → Int32) (ct : Nat → Int32) (tk : Int32) (v : Nat) (y : Nat) (hn : n ≤ 6) (hv : v < n) (hz : z < 6) (hvz : ¬ v = z) (hy1 : 1 ≤ y) (hy2 : y ≤ 200) (hs : f v + nI y ≤ 2000) : CM l D k yX10_put cX10_put 3 (some .int)  2 44 [.ref o, .int (nI v), .int (nI y)] [(o, .inr (14, [.ref h, .ref pp, .ref x2, .ref x3, .ref x4, .ref o2, .ref o4, .ref o9, .ref o7, .ref o0, .ref o1])), (h, .inr (7, [.ref jj, .ref dd, .int (nI n), .int (nI z)])), (jj, aI k 36 fj), (dd, aI k 6 fd), (pp, .inr (10, [.ref h, .ref r1, .ref r2, .int tk])), (r1, .inr (12, [.ref a1])), (a1, aI k 6 f), (r2, .inr (12, [.ref a2])), (a2, aI k 6 ct)] (is1 (some (.int (f v + nI y))) [(o, .inr (14, [.ref h, .ref pp, .ref x2, .ref x3, .ref x4, .ref o2, .ref o4, .ref o9, .ref o7, .ref o0, .ref o1])), (h, .inr (7, [.ref jj, .ref dd, .int (nI n), .int (nI z)])), (jj, aI k 36 fj), (dd, aI k 6 fd), (pp, .inr (10, [.ref h, .ref r1, .ref r2, .int tk])), (r1, .inr (12, [.ref a1])), (a1, aI k 6 (upd f v (f v + nI y))), (r2, .inr (12, [.ref a2])), (a2, aI k 6 ct)]) 0 0 0 := by
  refine CM.of (lv0 := [(0, .ref o), (1, .int (nI v)), (2, .int (nI y))]) (by decide +kernel) (Nat.le_of_ble_eq_true rfl) rfl ?_
  intro p e s m below meth c C hr hlk hin had
  refine g_aload_n (pc := 0) C 0 rfl rfl dX10_put_0 ?_
  refine g_iload_n (pc := 1) C 1 rfl rfl dX10_put_1 ?_
  refine g_callV (pc := 2) (cells := 0) (slots := 0) (g := 0) (As := [.int (nI v)]) (st := []) (T := TX10) (q0 := 0) C (nA := 1) rfl (c_X10_needVertex o h pp x2 x3 x4 o2 o4 o9 o7 o0 o1 jj dd n z fj fd v (by first | assumption | decide | omega) (by first | assumption | decide | omega)) q_215 q_216 q_214 q_201 q_213 (by decide +kernel) rfl rfl dX10_put_2 ⟨Nat.le_of_ble_eq_true rfl, Nat.le_of_ble_eq_true rfl⟩ [0, 1, 2, 3] [4, 5, 6, 7, 8] rfl (wr := [(pp, .inr (10, [.ref h, .ref r1, .ref r2, .int tk])), (r1, .inr (12, [.ref a1])), (a1, aI k 6 f), (r2, .inr (12, [.ref a2])), (a2, aI k 6 ct)]) rfl (by decide) (by decide) (by decide) (Nat.le_of_ble_eq_true rfl) ⟨Nat.le_of_ble_eq_true rfl, Nat.le_of_ble_eq_true rfl⟩ (fun rv w1 h1 => ?_)
  obtain ⟨rfl, rfl⟩ := h1
  refine G.aft [5, 6, 7, 8, 0, 1, 2, 3, 4] (ws' := [(o, .inr (14, [.ref h, .ref pp, .ref x2, .ref x3, .ref x4, .ref o2, .ref o4, .ref o9, .ref o7, .ref o0, .ref o1])), (h, .inr (7, [.ref jj, .ref dd, .int (nI n), .int (nI z)])), (jj, aI k 36 fj), (dd, aI k 6 fd), (pp, .inr (10, [.ref h, .ref r1, .ref r2, .int tk])), (r1, .inr (12, [.ref a1])), (a1, aI k 6 f), (r2, .inr (12, [.ref a2])), (a2, aI k 6 ct)]) (st' := []) (cells' := 0) (slots' := 0) (g' := 0) (by decide) rfl rfl rfl rfl rfl ?_
  refine g_iload_n (pc := 5) C 2 rfl rfl dX10_put_5 ?_
  refine g_iconst (pc := 6) (v := 1) C (by decide) dX10_put_6 ?_
  refine g_icmp_lt (pc := 7) C 17 (by decide) dX10_put_7 (fun c_7 => ?_) (fun c_7 => ?_)
  · exact absurd (show nI y < nI 1 from c_7) (nI_nlt hy1 (by omega))
  · refine g_iload_n (pc := 10) C 2 rfl rfl dX10_put_10 ?_
    refine g_sipush (pc := 11) (v := 200) C (by decide) dX10_put_11 ?_
    refine g_icmp_le (pc := 14) C 27 (by decide) dX10_put_14 (fun c_14 => ?_) (fun c_14 => ?_)
    · refine g_aload_n (pc := 27) C 0 rfl rfl dX10_put_27 ?_
      refine g_get (pc := 28) C (T := TX10) inX10 0 rfl rfl 0 (by decide) q_143 rfl rfl dX10_put_28 ?_
      refine g_iload_n (pc := 31) C 1 rfl rfl dX10_put_31 ?_
      refine g_callV (pc := 32) (cells := 0) (slots := 0) (g := 0) (As := [.int (nI v)]) (st := []) (T := TX3) (q0 := 1) C (nA := 1) rfl (c_X3_isSink h jj dd n z fj fd v (by first | assumption | decide | omega) (by first | assumption | decide | omega)) q_222 q_55 q_53 q_16 q_52 (by decide +kernel) rfl rfl dX10_put_32 ⟨Nat.le_of_ble_eq_true rfl, Nat.le_of_ble_eq_true rfl⟩ [1, 2, 3] [0, 4, 5, 6, 7, 8] rfl (wr := [(o, .inr (14, [.ref h, .ref pp, .ref x2, .ref x3, .ref x4, .ref o2, .ref o4, .ref o9, .ref o7, .ref o0, .ref o1])), (pp, .inr (10, [.ref h, .ref r1, .ref r2, .int tk])), (r1, .inr (12, [.ref a1])), (a1, aI k 6 f), (r2, .inr (12, [.ref a2])), (a2, aI k 6 ct)]) rfl (by decide) (by decide) (by decide) (Nat.le_of_ble_eq_true rfl) ⟨Nat.le_of_ble_eq_true rfl, Nat.le_of_ble_eq_true rfl⟩ (fun rv w1 h1 => ?_)
      obtain ⟨rfl, rfl⟩ := h1
      refine G.aft [0, 6, 7, 8, 1, 2, 3, 4, 5] (ws' := [(o, .inr (14, [.ref h, .ref pp, .ref x2, .ref x3, .ref x4, .ref o2, .ref o4, .ref o9, .ref o7, .ref o0, .ref o1])), (h, .inr (7, [.ref jj, .ref dd, .int (nI n), .int (nI z)])), (jj, aI k 36 fj), (dd, aI k 6 fd), (pp, .inr (10, [.ref h, .ref r1, .ref r2, .int tk])), (r1, .inr (12, [.ref a1])), (a1, aI k 6 f), (r2, .inr (12, [.ref a2])), (a2, aI k 6 ct)]) (st' := [.int (bI (decide (v = z)))]) (cells' := 0) (slots' := 0) (g' := 0) (by decide) rfl rfl rfl rfl rfl ?_
      refine g_if_ne (pc := 35) C 64 (by decide) dX10_put_35 (fun c_35 => ?_) (fun c_35 => ?_)
      · exact absurd (show bI (decide (v = z)) = 0 by simp [bI_0, hvz]) c_35
      · refine g_aload_n (pc := 38) C 0 rfl rfl dX10_put_38 ?_
        refine g_get (pc := 39) C (T := TX10) inX10 0 rfl rfl 1 (by decide) q_147 rfl rfl dX10_put_39 ?_
        refine g_iload_n (pc := 42) C 1 rfl rfl dX10_put_42 ?_
        refine g_callV (pc := 43) (cells := 0) (slots := 0) (g := 0) (As := [.int (nI v)]) (st := []) (T := TX6) (q0 := 4) C (nA := 1) rfl (c_X6_at h pp r1 a1 r2 a2 f ct tk v (by first | assumption | decide | omega)) q_225 q_226 q_224 q_43 q_223 (by decide +kernel) rfl rfl dX10_put_43 ⟨Nat.le_of_ble_eq_true rfl, Nat.le_of_ble_eq_true rfl⟩ [4, 5, 6, 7, 8] [0, 1, 2, 3] rfl (wr := [(o, .inr (14, [.ref h, .ref pp, .ref x2, .ref x3, .ref x4, .ref o2, .ref o4, .ref o9, .ref o7, .ref o0, .ref o1])), (h, .inr (7, [.ref jj, .ref dd, .int (nI n), .int (nI z)])), (jj, aI k 36 fj), (dd, aI k 6 fd)]) rfl (by decide) (by decide) (by decide) (Nat.le_of_ble_eq_true rfl) ⟨Nat.le_of_ble_eq_true rfl, Nat.le_of_ble_eq_true rfl⟩ (fun rv w1 h1 => ?_)
        obtain ⟨rfl, rfl⟩ := h1
        refine G.aft [0, 1, 2, 3, 4, 5, 6, 7, 8] (ws' := [(o, .inr (14, [.ref h, .ref pp, .ref x2, .ref x3, .ref x4, .ref o2, .ref o4, .ref o9, .ref o7, .ref o0, .ref o1])), (h, .inr (7, [.ref jj, .ref dd, .int (nI n), .int (nI z)])), (jj, aI k 36 fj), (dd, aI k 6 fd), (pp, .inr (10, [.ref h, .ref r1, .ref r2, .int tk])), (r1, .inr (12, [.ref a1])), (a1, aI k 6 f), (r2, .inr (12, [.ref a2])), (a2, aI k 6 ct)]) (st' := [.int (f v)]) (cells' := 0) (slots' := 0) (g' := 0) (by decide) rfl rfl rfl rfl rfl ?_
        refine g_iload_n (pc := 46) C 2 rfl rfl dX10_put_46 ?_
        refine g_iadd (pc := 47) C dX10_put_47 ?_
        refine g_sipush (pc := 48) (v := 2000) C (by decide) dX10_put_48 ?_
        refine g_icmp_le (pc := 51) C 64 (by decide) dX10_put_51 (fun c_51 => ?_) (fun c_51 => ?_)
        · refine g_aload_n (pc := 64) C 0 rfl rfl dX10_put_64 ?_
          refine g_get (pc := 65) C (T := TX10) inX10 0 rfl rfl 1 (by decide) q_147 rfl rfl dX10_put_65 ?_
          refine g_iload_n (pc := 68) C 1 rfl rfl dX10_put_68 ?_
          refine g_iload_n (pc := 69) C 2 rfl rfl dX10_put_69 ?_
          refine g_callV (pc := 70) (cells := 0) (slots := 0) (g := 0) (As := [.int (nI v), .int (nI y)]) (st := []) (T := TX6) (q0 := 4) C (nA := 2) rfl (c_X6_receive_o h jj dd n z fj fd pp r1 a1 r2 a2 f ct tk v (nI y) (by first | assumption | decide | omega) (by first | assumption | decide | omega) (by first | assumption | decide | omega)) q_229 q_230 q_228 q_43 q_227 (by decide +kernel) rfl rfl dX10_put_70 ⟨Nat.le_of_ble_eq_true rfl, Nat.le_of_ble_eq_true rfl⟩ [1, 2, 3, 4, 5, 6, 7, 8] [0] rfl (wr := [(o, .inr (14, [.ref h, .ref pp, .ref x2, .ref x3, .ref x4, .ref o2, .ref o4, .ref o9, .ref o7, .ref o0, .ref o1]))]) rfl (by decide) (by decide) (by decide) (Nat.le_of_ble_eq_true rfl) ⟨Nat.le_of_ble_eq_true rfl, Nat.le_of_ble_eq_true rfl⟩ (fun rv w1 h1 => ?_)
          obtain ⟨rfl, rfl⟩ := h1
          refine G.aft [0, 1, 2, 3, 4, 5, 6, 7, 8] (ws' := [(o, .inr (14, [.ref h, .ref pp, .ref x2, .ref x3, .ref x4, .ref o2, .ref o4, .ref o9, .ref o7, .ref o0, .ref o1])), (h, .inr (7, [.ref jj, .ref dd, .int (nI n), .int (nI z)])), (jj, aI k 36 fj), (dd, aI k 6 fd), (pp, .inr (10, [.ref h, .ref r1, .ref r2, .int tk])), (r1, .inr (12, [.ref a1])), (a1, aI k 6 (upd f v (f v + (nI y)))), (r2, .inr (12, [.ref a2])), (a2, aI k 6 ct)]) (st' := []) (cells' := 0) (slots' := 0) (g' := 0) (by decide) rfl rfl rfl rfl rfl ?_
          refine g_aload_n (pc := 73) C 0 rfl rfl dX10_put_73 ?_
          refine g_get (pc := 74) C (T := TX10) inX10 0 rfl rfl 1 (by decide) q_147 rfl rfl dX10_put_74 ?_
          refine g_iload_n (pc := 77) C 1 rfl rfl dX10_put_77 ?_
          refine g_callV (pc := 78) (cells := 0) (slots := 0) (g := 0) (As := [.int (nI v)]) (st := []) (T := TX6) (q0 := 4) C (nA := 1) rfl (c_X6_at h pp r1 a1 r2 a2 (upd f v (f v + (nI y))) ct tk v (by first | assumption | decide | omega)) q_225 q_226 q_224 q_43 q_223 (by decide +kernel) rfl rfl dX10_put_78 ⟨Nat.le_of_ble_eq_true rfl, Nat.le_of_ble_eq_true rfl⟩ [4, 5, 6, 7, 8] [0, 1, 2, 3] rfl (wr := [(o, .inr (14, [.ref h, .ref pp, .ref x2, .ref x3, .ref x4, .ref o2, .ref o4, .ref o9, .ref o7, .ref o0, .ref o1])), (h, .inr (7, [.ref jj, .ref dd, .int (nI n), .int (nI z)])), (jj, aI k 36 fj), (dd, aI k 6 fd)]) rfl (by decide) (by decide) (by decide) (Nat.le_of_ble_eq_true rfl) ⟨Nat.le_of_ble_eq_true rfl, Nat.le_of_ble_eq_true rfl⟩ (fun rv w1 h1 => ?_)
          obtain ⟨rfl, rfl⟩ := h1
          refine G.aft [0, 1, 2, 3, 4, 5, 6, 7, 8] (ws' := [(o, .inr (14, [.ref h, .ref pp, .ref x2, .ref x3, .ref x4, .ref o2, .ref o4, .ref o9, .ref o7, .ref o0, .ref o1])), (h, .inr (7, [.ref jj, .ref dd, .int (nI n), .int (nI z)])), (jj, aI k 36 fj), (dd, aI k 6 fd), (pp, .inr (10, [.ref h, .ref r1, .ref r2, .int tk])), (r1, .inr (12, [.ref a1])), (a1, aI k 6 (upd f v (f v + (nI y)))), (r2, .inr (12, [.ref a2])), (a2, aI k 6 ct)]) (st' := [.int ((upd f v (f v + (nI y))) v)]) (cells' := 0) (slots' := 0) (g' := 0) (by decide) rfl rfl rfl rfl rfl ?_
          refine G.eqs (st' := [.int (f v + nI y)]) (congrArg (fun z9 => [Value.int z9]) (show (((upd f v (f v + (nI y))) v) : Int32) = (f v + nI y) from by simp [upd])) ?_
          exact g_iret (pc := 81) C hr hlk (by first | decide | omega) (by first | decide | omega) (by first | decide | omega) dX10_put_81 ⟨rfl, rfl⟩
        · exact absurd hs c_51
    · exact absurd (show nI y ≤ nI 200 from nI_le hy2 (by omega)) c_14
/-- wave by wave -/
def wvI (n z : Nat) (fj fd f : Nat → Int32) : Nat → (Nat → Int32) × (Nat → Int32) × Int32
  | 0 => (f, (fun _ => 0), 0)
  | i + 1 => wvS n z fj fd (wvM z fd (wvI n z fj fd f i).1 n) (wvI n z fj fd f i) n
set_option maxRecDepth 100000 in
set_option maxHeartbeats 400000 in
theorem c_X10_waves {l : Launch} {D : va_G} {k : Nat → ClassId} (o : Nat) (h : Nat) (pp : Nat) (x2 : Nat) (x3 : Nat) (x4 : Nat) (o2 : Nat) (o4 : Nat) (o9 : Nat) (o7 : Nat) (o0 : Nat) (o1 : Nat) (jj : Nat) (dd : Nat) (n : Nat) (z : Nat) (fj : Nat → Int32) (fd : Nat → Int32) (r1 : Nat) (a1 : Nat) (r2 : Nat) (a2 : Nat) (f : Nat → Int32) (ct : Nat → Int32) (tk : Int32) (r3 : Nat) (a3 : Nat) (r4 : Nat) (a4 : Nat) (f2 : Nat → Int32) (ct2 : Nat → Int32) (tk2 : Int32) (N : Nat) (hn : n ≤ 6) (hz : z < 6) (hw : gConn fj n = true) (hN : N < 1000000) (hs1 : ∀ i, i < N → ¬ wvM z fd (wvI n z fj fd f i).1 n = 0) (hs2 : wvM z fd (wvI n z fj fd f N).1 n = 0) : CM l D k yX10_waves cX10_waves 2 (some .int)  4 90 [.ref o] [(o, .inr (14, [.ref h, .ref pp, .ref x2, .ref x3, .ref x4, .ref o2, .ref o4, .ref o9, .ref o7, .ref o0, .ref o1])), (h, .inr (7, [.ref jj, .ref dd, .int (nI n), .int (nI z)])), (jj, aI k 36 fj), (dd, aI k 6 fd), (pp, .inr (10, [.ref h, .ref r1, .ref r2, .int tk])), (r1, .inr (12, [.ref a1])), (a1, aI k 6 f), (r2, .inr (12, [.ref a2])), (a2, aI k 6 ct), (x2, .inr (10, [.ref h, .ref r3, .ref r4, .int tk2])), (r3, .inr (12, [.ref a3])), (a3, aI k 6 f2), (r4, .inr (12, [.ref a4])), (a4, aI k 6 ct2)] (is1 (some (.int (nI N))) [(o, .inr (14, [.ref h, .ref pp, .ref x2, .ref x3, .ref x4, .ref o2, .ref o4, .ref o9, .ref o7, .ref o0, .ref o1])), (h, .inr (7, [.ref jj, .ref dd, .int (nI n), .int (nI z)])), (jj, aI k 36 fj), (dd, aI k 6 fd), (pp, .inr (10, [.ref h, .ref r1, .ref r2, .int tk])), (r1, .inr (12, [.ref a1])), (a1, aI k 6 f), (r2, .inr (12, [.ref a2])), (a2, aI k 6 ct), (x2, .inr (10, [.ref h, .ref r3, .ref r4, .int ((wvI n z fj fd f (N + 1)).2.2)])), (r3, .inr (12, [.ref a3])), (a3, aI k 6 ((wvI n z fj fd f (N + 1)).1)), (r4, .inr (12, [.ref a4])), (a4, aI k 6 ((wvI n z fj fd f (N + 1)).2.1))]) 0 0 0 := by
  refine CM.of (lv0 := [(0, .ref o)]) (by decide +kernel) (Nat.le_of_ble_eq_true rfl) rfl ?_
  intro p e s m below meth c C hr hlk hin had
  refine g_aload_n (pc := 0) C 0 rfl rfl dX10_waves_0 ?_
  refine g_callV (pc := 1) (cells := 0) (slots := 0) (g := 0) (As := []) (st := []) (T := TX10) (q0 := 0) C (nA := 0) rfl (c_X10_needWhole o h pp x2 x3 x4 o2 o4 o9 o7 o0 o1 jj dd n z fj fd (by first | assumption | decide | omega) (by first | assumption | decide | omega)) q_233 q_234 q_232 q_201 q_231 (by decide +kernel) rfl rfl dX10_waves_1 ⟨Nat.le_of_ble_eq_true rfl, Nat.le_of_ble_eq_true rfl⟩ [0, 1, 2, 3] [4, 5, 6, 7, 8, 9, 10, 11, 12, 13] rfl (wr := [(pp, .inr (10, [.ref h, .ref r1, .ref r2, .int tk])), (r1, .inr (12, [.ref a1])), (a1, aI k 6 f), (r2, .inr (12, [.ref a2])), (a2, aI k 6 ct), (x2, .inr (10, [.ref h, .ref r3, .ref r4, .int tk2])), (r3, .inr (12, [.ref a3])), (a3, aI k 6 f2), (r4, .inr (12, [.ref a4])), (a4, aI k 6 ct2)]) rfl (by decide) (by decide) (by decide) (Nat.le_of_ble_eq_true rfl) ⟨Nat.le_of_ble_eq_true rfl, Nat.le_of_ble_eq_true rfl⟩ (fun rv w1 h1 => ?_)
  obtain ⟨rfl, rfl⟩ := h1
  refine G.aft [10, 11, 12, 13, 0, 1, 2, 3, 4, 5, 6, 7, 8, 9] (ws' := [(o, .inr (14, [.ref h, .ref pp, .ref x2, .ref x3, .ref x4, .ref o2, .ref o4, .ref o9, .ref o7, .ref o0, .ref o1])), (h, .inr (7, [.ref jj, .ref dd, .int (nI n), .int (nI z)])), (jj, aI k 36 fj), (dd, aI k 6 fd), (pp, .inr (10, [.ref h, .ref r1, .ref r2, .int tk])), (r1, .inr (12, [.ref a1])), (a1, aI k 6 f), (r2, .inr (12, [.ref a2])), (a2, aI k 6 ct), (x2, .inr (10, [.ref h, .ref r3, .ref r4, .int tk2])), (r3, .inr (12, [.ref a3])), (a3, aI k 6 f2), (r4, .inr (12, [.ref a4])), (a4, aI k 6 ct2)]) (st' := []) (cells' := 0) (slots' := 0) (g' := 0) (by decide) rfl rfl rfl rfl rfl ?_
  refine g_aload_n (pc := 4) C 0 rfl rfl dX10_waves_4 ?_
  refine g_get (pc := 5) C (T := TX10) inX10 0 rfl rfl 2 (by decide) q_148 rfl rfl dX10_waves_5 ?_
  refine g_aload_n (pc := 8) C 0 rfl rfl dX10_waves_8 ?_
  refine g_get (pc := 9) C (T := TX10) inX10 0 rfl rfl 1 (by decide) q_147 rfl rfl dX10_waves_9 ?_
  refine g_callV (pc := 12) (cells := 0) (slots := 0) (g := 0) (As := [.ref pp]) (st := []) (T := TX6) (q0 := 9) C (nA := 1) rfl (c_X6_copyChips h x2 r3 a3 r4 a4 f2 ct2 tk2 pp r1 r2 a1 f tk ) q_237 q_238 q_236 q_43 q_235 (by decide +kernel) rfl rfl dX10_waves_12 ⟨Nat.le_of_ble_eq_true rfl, Nat.le_of_ble_eq_true rfl⟩ [9, 10, 11, 12, 13, 4, 5, 6] [0, 1, 2, 3, 7, 8] rfl (wr := [(o, .inr (14, [.ref h, .ref pp, .ref x2, .ref x3, .ref x4, .ref o2, .ref o4, .ref o9, .ref o7, .ref o0, .ref o1])), (h, .inr (7, [.ref jj, .ref dd, .int (nI n), .int (nI z)])), (jj, aI k 36 fj), (dd, aI k 6 fd), (r2, .inr (12, [.ref a2])), (a2, aI k 6 ct)]) rfl (by decide) (by decide) (by decide) (Nat.le_of_ble_eq_true rfl) ⟨Nat.le_of_ble_eq_true rfl, Nat.le_of_ble_eq_true rfl⟩ (fun rv w1 h1 => ?_)
  obtain ⟨rfl, rfl⟩ := h1
  refine G.aft [0, 1, 2, 3, 11, 12, 13, 4, 5, 6, 7, 8, 9, 10] (ws' := [(o, .inr (14, [.ref h, .ref pp, .ref x2, .ref x3, .ref x4, .ref o2, .ref o4, .ref o9, .ref o7, .ref o0, .ref o1])), (h, .inr (7, [.ref jj, .ref dd, .int (nI n), .int (nI z)])), (jj, aI k 36 fj), (dd, aI k 6 fd), (pp, .inr (10, [.ref h, .ref r1, .ref r2, .int tk])), (r1, .inr (12, [.ref a1])), (a1, aI k 6 f), (r2, .inr (12, [.ref a2])), (a2, aI k 6 ct), (x2, .inr (10, [.ref h, .ref r3, .ref r4, .int 0])), (r3, .inr (12, [.ref a3])), (a3, aI k 6 f), (r4, .inr (12, [.ref a4])), (a4, aI k 6 (fun _ => 0))]) (st' := []) (cells' := 0) (slots' := 0) (g' := 0) (by decide) rfl rfl rfl rfl rfl ?_
  refine g_iconst (pc := 15) (v := 0) C (by decide) dX10_waves_15 ?_
  refine g_istore_n (pc := 16) C [(1, .int 0), (0, .ref o)] rfl dX10_waves_16 (by decide) rfl ?_
  have key_17 : ∀ (fuel : Nat) (i : Nat), i ≤ N → N - i < fuel → G p l e { frames := 4, cells := 0, slots := 0, locals := 90 } s m ([.ref o] : List Value).toArray below meth c D 2 (va_A [(o, .inr (14, [.ref h, .ref pp, .ref x2, .ref x3, .ref x4, .ref o2, .ref o4, .ref o9, .ref o7, .ref o0, .ref o1])), (h, .inr (7, [.ref jj, .ref dd, .int (nI n), .int (nI z)])), (jj, aI k 36 fj), (dd, aI k 6 fd), (pp, .inr (10, [.ref h, .ref r1, .ref r2, .int tk])), (r1, .inr (12, [.ref a1])), (a1, aI k 6 f), (r2, .inr (12, [.ref a2])), (a2, aI k 6 ct), (x2, .inr (10, [.ref h, .ref r3, .ref r4, .int tk2])), (r3, .inr (12, [.ref a3])), (a3, aI k 6 f2), (r4, .inr (12, [.ref a4])), (a4, aI k 6 ct2)] s.heap.size) (QM below D ([.ref o] : List Value).toArray s [(o, .inr (14, [.ref h, .ref pp, .ref x2, .ref x3, .ref x4, .ref o2, .ref o4, .ref o9, .ref o7, .ref o0, .ref o1])), (h, .inr (7, [.ref jj, .ref dd, .int (nI n), .int (nI z)])), (jj, aI k 36 fj), (dd, aI k 6 fd), (pp, .inr (10, [.ref h, .ref r1, .ref r2, .int tk])), (r1, .inr (12, [.ref a1])), (a1, aI k 6 f), (r2, .inr (12, [.ref a2])), (a2, aI k 6 ct), (x2, .inr (10, [.ref h, .ref r3, .ref r4, .int tk2])), (r3, .inr (12, [.ref a3])), (a3, aI k 6 f2), (r4, .inr (12, [.ref a4])), (a4, aI k 6 ct2)] (is1 (some (.int (nI N))) [(o, .inr (14, [.ref h, .ref pp, .ref x2, .ref x3, .ref x4, .ref o2, .ref o4, .ref o9, .ref o7, .ref o0, .ref o1])), (h, .inr (7, [.ref jj, .ref dd, .int (nI n), .int (nI z)])), (jj, aI k 36 fj), (dd, aI k 6 fd), (pp, .inr (10, [.ref h, .ref r1, .ref r2, .int tk])), (r1, .inr (12, [.ref a1])), (a1, aI k 6 f), (r2, .inr (12, [.ref a2])), (a2, aI k 6 ct), (x2, .inr (10, [.ref h, .ref r3, .ref r4, .int ((wvI n z fj fd f (N + 1)).2.2)])), (r3, .inr (12, [.ref a3])), (a3, aI k 6 ((wvI n z fj fd f (N + 1)).1)), (r4, .inr (12, [.ref a4])), (a4, aI k 6 ((wvI n z fj fd f (N + 1)).2.1))]) 0 0 0) [(o, .inr (14, [.ref h, .ref pp, .ref x2, .ref x3, .ref x4, .ref o2, .ref o4, .ref o9, .ref o7, .ref o0, .ref o1])), (h, .inr (7, [.ref jj, .ref dd, .int (nI n), .int (nI z)])), (jj, aI k 36 fj), (dd, aI k 6 fd), (pp, .inr (10, [.ref h, .ref r1, .ref r2, .int tk])), (r1, .inr (12, [.ref a1])), (a1, aI k 6 f), (r2, .inr (12, [.ref a2])), (a2, aI k 6 ct), (x2, .inr (10, [.ref h, .ref r3, .ref r4, .int ((wvI n z fj fd f i).2.2)])), (r3, .inr (12, [.ref a3])), (a3, aI k 6 ((wvI n z fj fd f i).1)), (r4, .inr (12, [.ref a4])), (a4, aI k 6 ((wvI n z fj fd f i).2.1))] [(0, .ref o), (1, .int (nI i))] 0 0 0 17 [] := by
    intro fuel
    induction fuel with
    | zero => intro i hi hm; exact absurd hm (Nat.not_lt_zero _)
    | succ fuel ih =>
      intro i hi hm
      have ih_17 := ih
      refine g_iload_n (pc := 17) C 1 rfl rfl dX10_waves_17 ?_
      refine g_ldc (pc := 18) C (v := 1000000) q_239 dX10_waves_18 ?_
      refine g_icmp_ge (pc := 20) C 39 (by decide) dX10_waves_20 (fun c_20 => ?_) (fun c_20 => ?_)
      · exact absurd (show nI 1000000 ≤ nI i from c_20) (nI_ge (show i < 1000000 by omega) (by omega))
      · refine g_aload_n (pc := 23) C 0 rfl rfl dX10_waves_23 ?_
        refine g_get (pc := 24) C (T := TX10) inX10 0 rfl rfl 2 (by decide) q_148 rfl rfl dX10_waves_24 ?_
        refine g_callV (pc := 27) (cells := 0) (slots := 0) (g := 0) (As := []) (st := []) (T := TX6) (q0 := 9) C (nA := 0) rfl (c_X6_toppleWave h jj dd n z fj fd x2 r3 a3 r4 a4 ((wvI n z fj fd f i).1) ((wvI n z fj fd f i).2.1) ((wvI n z fj fd f i).2.2) (by first | assumption | decide | omega) (by first | assumption | decide | omega)) q_242 q_243 q_241 q_43 q_240 (by decide +kernel) rfl rfl dX10_waves_27 ⟨Nat.le_of_ble_eq_true rfl, Nat.le_of_ble_eq_true rfl⟩ [1, 2, 3, 9, 10, 11, 12, 13] [0, 4, 5, 6, 7, 8] rfl (wr := [(o, .inr (14, [.ref h, .ref pp, .ref x2, .ref x3, .ref x4, .ref o2, .ref o4, .ref o9, .ref o7, .ref o0, .ref o1])), (pp, .inr (10, [.ref h, .ref r1, .ref r2, .int tk])), (r1, .inr (12, [.ref a1])), (a1, aI k 6 f), (r2, .inr (12, [.ref a2])), (a2, aI k 6 ct)]) rfl (by decide) (by decide) (by decide) (Nat.le_of_ble_eq_true rfl) ⟨Nat.le_of_ble_eq_true rfl, Nat.le_of_ble_eq_true rfl⟩ (fun rv w1 h1 => ?_)
        obtain ⟨rfl, rfl⟩ := h1
        refine G.aft [0, 6, 7, 8, 1, 2, 3, 4, 5, 9, 10, 11, 12, 13] (ws' := [(o, .inr (14, [.ref h, .ref pp, .ref x2, .ref x3, .ref x4, .ref o2, .ref o4, .ref o9, .ref o7, .ref o0, .ref o1])), (h, .inr (7, [.ref jj, .ref dd, .int (nI n), .int (nI z)])), (jj, aI k 36 fj), (dd, aI k 6 fd), (pp, .inr (10, [.ref h, .ref r1, .ref r2, .int tk])), (r1, .inr (12, [.ref a1])), (a1, aI k 6 f), (r2, .inr (12, [.ref a2])), (a2, aI k 6 ct), (x2, .inr (10, [.ref h, .ref r3, .ref r4, .int ((wvS n z fj fd (wvM z fd ((wvI n z fj fd f i).1) n) (((wvI n z fj fd f i).1), ((wvI n z fj fd f i).2.1), ((wvI n z fj fd f i).2.2)) n).2.2)])), (r3, .inr (12, [.ref a3])), (a3, aI k 6 ((wvS n z fj fd (wvM z fd ((wvI n z fj fd f i).1) n) (((wvI n z fj fd f i).1), ((wvI n z fj fd f i).2.1), ((wvI n z fj fd f i).2.2)) n).1)), (r4, .inr (12, [.ref a4])), (a4, aI k 6 ((wvS n z fj fd (wvM z fd ((wvI n z fj fd f i).1) n) (((wvI n z fj fd f i).1), ((wvI n z fj fd f i).2.1), ((wvI n z fj fd f i).2.2)) n).2.1))]) (st' := [.int (bI (decide (¬ wvM z fd ((wvI n z fj fd f i).1) n = 0)))]) (cells' := 0) (slots' := 0) (g' := 0) (by decide) rfl rfl rfl rfl rfl ?_
        refine g_if_eq (pc := 30) C 39 (by decide) dX10_waves_30 (fun c_30 => ?_) (fun c_30 => ?_)
        · have h3 : i = N := by { rcases Nat.lt_or_ge i N with q | q; exact absurd c_30 (by simp [bI_0, hs1 i q]); omega }
          refine g_iload_n (pc := 39) C 1 rfl rfl dX10_waves_39 ?_
          refine G.eqw (ws' := [(o, .inr (14, [.ref h, .ref pp, .ref x2, .ref x3, .ref x4, .ref o2, .ref o4, .ref o9, .ref o7, .ref o0, .ref o1])), (h, .inr (7, [.ref jj, .ref dd, .int (nI n), .int (nI z)])), (jj, aI k 36 fj), (dd, aI k 6 fd), (pp, .inr (10, [.ref h, .ref r1, .ref r2, .int tk])), (r1, .inr (12, [.ref a1])), (a1, aI k 6 f), (r2, .inr (12, [.ref a2])), (a2, aI k 6 ct), (x2, .inr (10, [.ref h, .ref r3, .ref r4, .int ((wvI n z fj fd f (N + 1)).2.2)])), (r3, .inr (12, [.ref a3])), (a3, aI k 6 ((wvS n z fj fd (wvM z fd ((wvI n z fj fd f i).1) n) (((wvI n z fj fd f i).1), ((wvI n z fj fd f i).2.1), ((wvI n z fj fd f i).2.2)) n).1)), (r4, .inr (12, [.ref a4])), (a4, aI k 6 ((wvS n z fj fd (wvM z fd ((wvI n z fj fd f i).1) n) (((wvI n z fj fd f i).1), ((wvI n z fj fd f i).2.1), ((wvI n z fj fd f i).2.2)) n).2.1))]) (congrArg (β := va_W) (fun z9 => [(o, .inr (14, [.ref h, .ref pp, .ref x2, .ref x3, .ref x4, .ref o2, .ref o4, .ref o9, .ref o7, .ref o0, .ref o1])), (h, .inr (7, [.ref jj, .ref dd, .int (nI n), .int (nI z)])), (jj, aI k 36 fj), (dd, aI k 6 fd), (pp, .inr (10, [.ref h, .ref r1, .ref r2, .int tk])), (r1, .inr (12, [.ref a1])), (a1, aI k 6 f), (r2, .inr (12, [.ref a2])), (a2, aI k 6 ct), (x2, .inr (10, [.ref h, .ref r3, .ref r4, .int z9])), (r3, .inr (12, [.ref a3])), (a3, aI k 6 ((wvS n z fj fd (wvM z fd ((wvI n z fj fd f i).1) n) (((wvI n z fj fd f i).1), ((wvI n z fj fd f i).2.1), ((wvI n z fj fd f i).2.2)) n).1)), (r4, .inr (12, [.ref a4])), (a4, aI k 6 ((wvS n z fj fd (wvM z fd ((wvI n z fj fd f i).1) n) (((wvI n z fj fd f i).1), ((wvI n z fj fd f i).2.1), ((wvI n z fj fd f i).2.2)) n).2.1))]) (show ((wvS n z fj fd (wvM z fd ((wvI n z fj fd f i).1) n) (((wvI n z fj fd f i).1), ((wvI n z fj fd f i).2.1), ((wvI n z fj fd f i).2.2)) n).2.2 : Int32) = (wvI n z fj fd f (N + 1)).2.2 from by first | (rw [← h3]; done) | (rw [← h3]; rfl))) ?_
          refine G.fn ((wvI n z fj fd f (N + 1)).1) 11 [(o, .inr (14, [.ref h, .ref pp, .ref x2, .ref x3, .ref x4, .ref o2, .ref o4, .ref o9, .ref o7, .ref o0, .ref o1])), (h, .inr (7, [.ref jj, .ref dd, .int (nI n), .int (nI z)])), (jj, aI k 36 fj), (dd, aI k 6 fd), (pp, .inr (10, [.ref h, .ref r1, .ref r2, .int tk])), (r1, .inr (12, [.ref a1])), (a1, aI k 6 f), (r2, .inr (12, [.ref a2])), (a2, aI k 6 ct), (x2, .inr (10, [.ref h, .ref r3, .ref r4, .int ((wvI n z fj fd f (N + 1)).2.2)])), (r3, .inr (12, [.ref a3])), (a3, aI k 6 ((wvI n z fj fd f (N + 1)).1)), (r4, .inr (12, [.ref a4])), (a4, aI k 6 ((wvS n z fj fd (wvM z fd ((wvI n z fj fd f i).1) n) (((wvI n z fj fd f i).1), ((wvI n z fj fd f i).2.1), ((wvI n z fj fd f i).2.2)) n).2.1))] rfl (fun j hj => by first | (rw [← h3]; done) | (rw [← h3]; rfl)) rfl ?_
          refine G.fn ((wvI n z fj fd f (N + 1)).2.1) 13 [(o, .inr (14, [.ref h, .ref pp, .ref x2, .ref x3, .ref x4, .ref o2, .ref o4, .ref o9, .ref o7, .ref o0, .ref o1])), (h, .inr (7, [.ref jj, .ref dd, .int (nI n), .int (nI z)])), (jj, aI k 36 fj), (dd, aI k 6 fd), (pp, .inr (10, [.ref h, .ref r1, .ref r2, .int tk])), (r1, .inr (12, [.ref a1])), (a1, aI k 6 f), (r2, .inr (12, [.ref a2])), (a2, aI k 6 ct), (x2, .inr (10, [.ref h, .ref r3, .ref r4, .int ((wvI n z fj fd f (N + 1)).2.2)])), (r3, .inr (12, [.ref a3])), (a3, aI k 6 ((wvI n z fj fd f (N + 1)).1)), (r4, .inr (12, [.ref a4])), (a4, aI k 6 ((wvI n z fj fd f (N + 1)).2.1))] rfl (fun j hj => by first | (rw [← h3]; done) | (rw [← h3]; rfl)) rfl ?_
          refine G.eqs (st' := [.int (nI N)]) (congrArg (fun z9 => [Value.int z9]) (show ((nI i) : Int32) = (nI N) from by first | (rw [← h3]; done) | (rw [← h3]; rfl))) ?_
          exact g_iret (pc := 40) C hr hlk (by first | decide | omega) (by first | decide | omega) (by first | decide | omega) dX10_waves_40 ⟨rfl, rfl⟩
        · have hlt : i < N := by { rcases Nat.lt_or_ge i N with q | q; exact q; have h3 : i = N := (by omega); subst h3; exact absurd (show bI (decide (¬ wvM z fd (wvI n z fj fd f i).1 n = 0)) = 0 by simp [bI_0, hs2]) c_30 }
          refine g_iinc (pc := 33) (n := 1) (v := (nI (i + 1))) C 1 [(1, .int (nI (i + 1))), (0, .ref o)] rfl (nI_1 i) dX10_waves_33 (by decide) rfl ?_
          refine g_goto (pc := 36) C 17 (by decide) dX10_waves_36 ?_
          refine G.loc [1, 0] (lv' := [(0, .ref o), (1, .int (nI (i + 1)))]) rfl ?_
          refine G.eqw (ws' := [(o, .inr (14, [.ref h, .ref pp, .ref x2, .ref x3, .ref x4, .ref o2, .ref o4, .ref o9, .ref o7, .ref o0, .ref o1])), (h, .inr (7, [.ref jj, .ref dd, .int (nI n), .int (nI z)])), (jj, aI k 36 fj), (dd, aI k 6 fd), (pp, .inr (10, [.ref h, .ref r1, .ref r2, .int tk])), (r1, .inr (12, [.ref a1])), (a1, aI k 6 f), (r2, .inr (12, [.ref a2])), (a2, aI k 6 ct), (x2, .inr (10, [.ref h, .ref r3, .ref r4, .int ((wvI n z fj fd f (i + 1)).2.2)])), (r3, .inr (12, [.ref a3])), (a3, aI k 6 ((wvS n z fj fd (wvM z fd ((wvI n z fj fd f i).1) n) (((wvI n z fj fd f i).1), ((wvI n z fj fd f i).2.1), ((wvI n z fj fd f i).2.2)) n).1)), (r4, .inr (12, [.ref a4])), (a4, aI k 6 ((wvS n z fj fd (wvM z fd ((wvI n z fj fd f i).1) n) (((wvI n z fj fd f i).1), ((wvI n z fj fd f i).2.1), ((wvI n z fj fd f i).2.2)) n).2.1))]) (congrArg (β := va_W) (fun z9 => [(o, .inr (14, [.ref h, .ref pp, .ref x2, .ref x3, .ref x4, .ref o2, .ref o4, .ref o9, .ref o7, .ref o0, .ref o1])), (h, .inr (7, [.ref jj, .ref dd, .int (nI n), .int (nI z)])), (jj, aI k 36 fj), (dd, aI k 6 fd), (pp, .inr (10, [.ref h, .ref r1, .ref r2, .int tk])), (r1, .inr (12, [.ref a1])), (a1, aI k 6 f), (r2, .inr (12, [.ref a2])), (a2, aI k 6 ct), (x2, .inr (10, [.ref h, .ref r3, .ref r4, .int z9])), (r3, .inr (12, [.ref a3])), (a3, aI k 6 ((wvS n z fj fd (wvM z fd ((wvI n z fj fd f i).1) n) (((wvI n z fj fd f i).1), ((wvI n z fj fd f i).2.1), ((wvI n z fj fd f i).2.2)) n).1)), (r4, .inr (12, [.ref a4])), (a4, aI k 6 ((wvS n z fj fd (wvM z fd ((wvI n z fj fd f i).1) n) (((wvI n z fj fd f i).1), ((wvI n z fj fd f i).2.1), ((wvI n z fj fd f i).2.2)) n).2.1))]) (show ((wvS n z fj fd (wvM z fd ((wvI n z fj fd f i).1) n) (((wvI n z fj fd f i).1), ((wvI n z fj fd f i).2.1), ((wvI n z fj fd f i).2.2)) n).2.2 : Int32) = (wvI n z fj fd f (i + 1)).2.2 from by rfl)) ?_
          refine G.fn ((wvI n z fj fd f (i + 1)).1) 11 [(o, .inr (14, [.ref h, .ref pp, .ref x2, .ref x3, .ref x4, .ref o2, .ref o4, .ref o9, .ref o7, .ref o0, .ref o1])), (h, .inr (7, [.ref jj, .ref dd, .int (nI n), .int (nI z)])), (jj, aI k 36 fj), (dd, aI k 6 fd), (pp, .inr (10, [.ref h, .ref r1, .ref r2, .int tk])), (r1, .inr (12, [.ref a1])), (a1, aI k 6 f), (r2, .inr (12, [.ref a2])), (a2, aI k 6 ct), (x2, .inr (10, [.ref h, .ref r3, .ref r4, .int ((wvI n z fj fd f (i + 1)).2.2)])), (r3, .inr (12, [.ref a3])), (a3, aI k 6 ((wvI n z fj fd f (i + 1)).1)), (r4, .inr (12, [.ref a4])), (a4, aI k 6 ((wvS n z fj fd (wvM z fd ((wvI n z fj fd f i).1) n) (((wvI n z fj fd f i).1), ((wvI n z fj fd f i).2.1), ((wvI n z fj fd f i).2.2)) n).2.1))] rfl (fun j hj => by rfl) rfl ?_
          refine G.fn ((wvI n z fj fd f (i + 1)).2.1) 13 [(o, .inr (14, [.ref h, .ref pp, .ref x2, .ref x3, .ref x4, .ref o2, .ref o4, .ref o9, .ref o7, .ref o0, .ref o1])), (h, .inr (7, [.ref jj, .ref dd, .int (nI n), .int (nI z)])), (jj, aI k 36 fj), (dd, aI k 6 fd), (pp, .inr (10, [.ref h, .ref r1, .ref r2, .int tk])), (r1, .inr (12, [.ref a1])), (a1, aI k 6 f), (r2, .inr (12, [.ref a2])), (a2, aI k 6 ct), (x2, .inr (10, [.ref h, .ref r3, .ref r4, .int ((wvI n z fj fd f (i + 1)).2.2)])), (r3, .inr (12, [.ref a3])), (a3, aI k 6 ((wvI n z fj fd f (i + 1)).1)), (r4, .inr (12, [.ref a4])), (a4, aI k 6 ((wvI n z fj fd f (i + 1)).2.1))] rfl (fun j hj => by rfl) rfl ?_
          exact ih_17 (i + 1) (by omega) (by omega)
  refine G.loc [1, 0] (lv' := [(0, .ref o), (1, .int 0)]) rfl ?_
  refine G.eqw (ws' := [(o, .inr (14, [.ref h, .ref pp, .ref x2, .ref x3, .ref x4, .ref o2, .ref o4, .ref o9, .ref o7, .ref o0, .ref o1])), (h, .inr (7, [.ref jj, .ref dd, .int (nI n), .int (nI z)])), (jj, aI k 36 fj), (dd, aI k 6 fd), (pp, .inr (10, [.ref h, .ref r1, .ref r2, .int tk])), (r1, .inr (12, [.ref a1])), (a1, aI k 6 f), (r2, .inr (12, [.ref a2])), (a2, aI k 6 ct), (x2, .inr (10, [.ref h, .ref r3, .ref r4, .int ((wvI n z fj fd f 0).2.2)])), (r3, .inr (12, [.ref a3])), (a3, aI k 6 f), (r4, .inr (12, [.ref a4])), (a4, aI k 6 (fun _ => 0))]) (congrArg (β := va_W) (fun z9 => [(o, .inr (14, [.ref h, .ref pp, .ref x2, .ref x3, .ref x4, .ref o2, .ref o4, .ref o9, .ref o7, .ref o0, .ref o1])), (h, .inr (7, [.ref jj, .ref dd, .int (nI n), .int (nI z)])), (jj, aI k 36 fj), (dd, aI k 6 fd), (pp, .inr (10, [.ref h, .ref r1, .ref r2, .int tk])), (r1, .inr (12, [.ref a1])), (a1, aI k 6 f), (r2, .inr (12, [.ref a2])), (a2, aI k 6 ct), (x2, .inr (10, [.ref h, .ref r3, .ref r4, .int z9])), (r3, .inr (12, [.ref a3])), (a3, aI k 6 f), (r4, .inr (12, [.ref a4])), (a4, aI k 6 (fun _ => 0))]) (show (0 : Int32) = (wvI n z fj fd f 0).2.2 from by rfl)) ?_
  refine G.fn ((wvI n z fj fd f 0).1) 11 [(o, .inr (14, [.ref h, .ref pp, .ref x2, .ref x3, .ref x4, .ref o2, .ref o4, .ref o9, .ref o7, .ref o0, .ref o1])), (h, .inr (7, [.ref jj, .ref dd, .int (nI n), .int (nI z)])), (jj, aI k 36 fj), (dd, aI k 6 fd), (pp, .inr (10, [.ref h, .ref r1, .ref r2, .int tk])), (r1, .inr (12, [.ref a1])), (a1, aI k 6 f), (r2, .inr (12, [.ref a2])), (a2, aI k 6 ct), (x2, .inr (10, [.ref h, .ref r3, .ref r4, .int ((wvI n z fj fd f 0).2.2)])), (r3, .inr (12, [.ref a3])), (a3, aI k 6 ((wvI n z fj fd f 0).1)), (r4, .inr (12, [.ref a4])), (a4, aI k 6 (fun _ => 0))] rfl (fun j hj => by rfl) rfl ?_
  refine G.fn ((wvI n z fj fd f 0).2.1) 13 [(o, .inr (14, [.ref h, .ref pp, .ref x2, .ref x3, .ref x4, .ref o2, .ref o4, .ref o9, .ref o7, .ref o0, .ref o1])), (h, .inr (7, [.ref jj, .ref dd, .int (nI n), .int (nI z)])), (jj, aI k 36 fj), (dd, aI k 6 fd), (pp, .inr (10, [.ref h, .ref r1, .ref r2, .int tk])), (r1, .inr (12, [.ref a1])), (a1, aI k 6 f), (r2, .inr (12, [.ref a2])), (a2, aI k 6 ct), (x2, .inr (10, [.ref h, .ref r3, .ref r4, .int ((wvI n z fj fd f 0).2.2)])), (r3, .inr (12, [.ref a3])), (a3, aI k 6 ((wvI n z fj fd f 0).1)), (r4, .inr (12, [.ref a4])), (a4, aI k 6 ((wvI n z fj fd f 0).2.1))] rfl (fun j hj => by rfl) rfl ?_
  refine G.eql (lv' := [(0, .ref o), (1, .int (nI 0))]) (congrArg (β := List (Nat × Value)) (fun z9 => [(0, .ref o), (1, .int z9)]) (show (0 : Int32) = (nI 0) from by exact nI_0.symm)) ?_
  exact key_17 (N - 0 + 1) 0 (by omega) (Nat.lt_succ_self _)
end
section
theorem dX11_thrown_0 : decode cX11_thrown 0 = .ok (.aload_n 0, 1) := by decide +kernel
theorem dX11_thrown_1 : decode cX11_thrown 1 = .ok (.getfield 46, 3) := by decide +kernel
theorem q_244 : (Jvm.Cond.fieldLink "ChipfoldModel" (46 : Nat) "ChipfoldModel" "thrown" "I") ∈ WG := wg_5 (List.mem_of_getElem? (i := 172) (by decide +kernel)) (by decide +kernel)
theorem inX11 : ∀ w ∈ u_ws RX11 TX11 12, w ∈ WG := by decide +kernel
theorem dX11_thrown_4 : decode cX11_thrown 4 = .ok (.ireturn, 1) := by decide +kernel
theorem dX11_in_0 : decode cX11_in 0 = .ok (.iload_n 0, 1) := by decide +kernel
theorem dX11_in_1 : decode cX11_in 1 = .ok (.iload_n 1, 1) := by decide +kernel
theorem dX11_in_2 : decode cX11_in 2 = .ok (.if_icmp .lt 12, 3) := by decide +kernel
theorem dX11_in_14 : decode cX11_in 14 = .ok (.iconst 0, 1) := by decide +kernel
theorem dX11_in_15 : decode cX11_in 15 = .ok (.ireturn, 1) := by decide +kernel
theorem dX11_in_5 : decode cX11_in 5 = .ok (.iload_n 0, 1) := by decide +kernel
theorem dX11_in_6 : decode cX11_in 6 = .ok (.iload_n 2, 1) := by decide +kernel
theorem dX11_in_7 : decode cX11_in 7 = .ok (.if_icmp .gt 7, 3) := by decide +kernel
theorem dX11_in_10 : decode cX11_in 10 = .ok (.iconst 1, 1) := by decide +kernel
theorem dX11_in_11 : decode cX11_in 11 = .ok (.goto 4, 3) := by decide +kernel
theorem dX11_isVertex_0 : decode cX11_isVertex 0 = .ok (.iload_n 1, 1) := by decide +kernel
theorem dX11_isVertex_1 : decode cX11_isVertex 1 = .ok (.iconst 0, 1) := by decide +kernel
theorem dX11_isVertex_2 : decode cX11_isVertex 2 = .ok (.aload_n 0, 1) := by decide +kernel
theorem dX11_isVertex_3 : decode cX11_isVertex 3 = .ok (.getfield 33, 3) := by decide +kernel
theorem q_245 : (Jvm.Cond.fieldLink "ChipfoldModel" (33 : Nat) "ChipfoldModel" "size" "I") ∈ WG := wg_5 (List.mem_of_getElem? (i := 168) (by decide +kernel)) (by decide +kernel)
theorem dX11_isVertex_6 : decode cX11_isVertex 6 = .ok (.iconst 1, 1) := by decide +kernel
theorem dX11_isVertex_7 : decode cX11_isVertex 7 = .ok (.isub, 1) := by decide +kernel
theorem dX11_isVertex_8 : decode cX11_isVertex 8 = .ok (.invokestatic 49, 3) := by decide +kernel
theorem q_246 : (Jvm.Cond.code ({ cls := "ChipfoldModel", name := "in", desc := "(III)Z" } : Jvm.MethodName) prog_13_method_3_code (3 : Nat) (Option.some Jvm.ClassFile.FieldType.boolean)) ∈ WG := wg_5 (List.mem_of_getElem? (i := 220) rfl) rfl
theorem q_247 : (Jvm.Cond.initialized "ChipfoldModel") ∈ WG := wg_1 (List.mem_of_getElem? (i := 12) (by decide +kernel)) (by decide +kernel)
theorem q_248 : (Jvm.Cond.methodLink "ChipfoldModel" (49 : Nat) ({ cls := "ChipfoldModel", name := "in", desc := "(III)Z" } : Jvm.MethodName)) ∈ WG := wg_5 (List.mem_of_getElem? (i := 218) (by decide +kernel)) (by decide +kernel)
theorem q_249 : (Jvm.Cond.static ({ cls := "ChipfoldModel", name := "in", desc := "(III)Z" } : Jvm.MethodName)) ∈ WG := wg_5 (List.mem_of_getElem? (i := 219) (by decide +kernel)) (by decide +kernel)
theorem dX11_isVertex_11 : decode cX11_isVertex 11 = .ok (.ireturn, 1) := by decide +kernel
theorem dX11_begin_0 : decode cX11_begin 0 = .ok (.aload_n 0, 1) := by decide +kernel
theorem dX11_begin_1 : decode cX11_begin 1 = .ok (.bipush 6, 2) := by decide +kernel
theorem dX11_begin_3 : decode cX11_begin 3 = .ok (.newarray .int, 2) := by decide +kernel
theorem dX11_begin_5 : decode cX11_begin 5 = .ok (.putfield 14, 3) := by decide +kernel
theorem q_250 : (Jvm.Cond.fieldLink "ChipfoldModel" (14 : Nat) "ChipfoldModel" "chips" "[I") ∈ WG := wg_5 (List.mem_of_getElem? (i := 162) (by decide +kernel)) (by decide +kernel)
theorem dX11_begin_8 : decode cX11_begin 8 = .ok (.aload_n 0, 1) := by decide +kernel
theorem dX11_begin_9 : decode cX11_begin 9 = .ok (.bipush 6, 2) := by decide +kernel
theorem dX11_begin_11 : decode cX11_begin 11 = .ok (.newarray .int, 2) := by decide +kernel
theorem dX11_begin_13 : decode cX11_begin 13 = .ok (.putfield 18, 3) := by decide +kernel
theorem q_251 : (Jvm.Cond.fieldLink "ChipfoldModel" (18 : Nat) "ChipfoldModel" "counts" "[I") ∈ WG := wg_5 (List.mem_of_getElem? (i := 163) (by decide +kernel)) (by decide +kernel)
theorem dX11_begin_16 : decode cX11_begin 16 = .ok (.aload_n 0, 1) := by decide +kernel
theorem dX11_begin_17 : decode cX11_begin 17 = .ok (.bipush 6, 2) := by decide +kernel
theorem dX11_begin_19 : decode cX11_begin 19 = .ok (.newarray .int, 2) := by decide +kernel
theorem dX11_begin_21 : decode cX11_begin 21 = .ok (.putfield 21, 3) := by decide +kernel
theorem q_252 : (Jvm.Cond.fieldLink "ChipfoldModel" (21 : Nat) "ChipfoldModel" "rotors" "[I") ∈ WG := wg_5 (List.mem_of_getElem? (i := 164) (by decide +kernel)) (by decide +kernel)
theorem dX11_begin_24 : decode cX11_begin 24 = .ok (.aload_n 0, 1) := by decide +kernel
theorem dX11_begin_25 : decode cX11_begin 25 = .ok (.bipush 6, 2) := by decide +kernel
theorem dX11_begin_27 : decode cX11_begin 27 = .ok (.newarray .int, 2) := by decide +kernel
theorem dX11_begin_29 : decode cX11_begin 29 = .ok (.putfield 24, 3) := by decide +kernel
theorem q_253 : (Jvm.Cond.fieldLink "ChipfoldModel" (24 : Nat) "ChipfoldModel" "visits" "[I") ∈ WG := wg_5 (List.mem_of_getElem? (i := 165) (by decide +kernel)) (by decide +kernel)
theorem dX11_begin_32 : decode cX11_begin 32 = .ok (.aload_n 0, 1) := by decide +kernel
theorem dX11_begin_33 : decode cX11_begin 33 = .ok (.bipush 6, 2) := by decide +kernel
theorem dX11_begin_35 : decode cX11_begin 35 = .ok (.newarray .int, 2) := by decide +kernel
theorem dX11_begin_37 : decode cX11_begin 37 = .ok (.putfield 27, 3) := by decide +kernel
theorem q_254 : (Jvm.Cond.fieldLink "ChipfoldModel" (27 : Nat) "ChipfoldModel" "debts" "[I") ∈ WG := wg_5 (List.mem_of_getElem? (i := 166) (by decide +kernel)) (by decide +kernel)
theorem dX11_begin_40 : decode cX11_begin 40 = .ok (.aload_n 0, 1) := by decide +kernel
theorem dX11_begin_41 : decode cX11_begin 41 = .ok (.iconst 0, 1) := by decide +kernel
theorem dX11_begin_42 : decode cX11_begin 42 = .ok (.putfield 40, 3) := by decide +kernel
theorem q_255 : (Jvm.Cond.fieldLink "ChipfoldModel" (40 : Nat) "ChipfoldModel" "swallowed" "I") ∈ WG := wg_5 (List.mem_of_getElem? (i := 170) (by decide +kernel)) (by decide +kernel)
theorem dX11_begin_45 : decode cX11_begin 45 = .ok (.return_, 1) := by decide +kernel
theorem dX11_degreeOf_0 : decode cX11_degreeOf 0 = .ok (.iconst 0, 1) := by decide +kernel
theorem dX11_degreeOf_1 : decode cX11_degreeOf 1 = .ok (.istore_n 2, 1) := by decide +kernel
theorem dX11_degreeOf_2 : decode cX11_degreeOf 2 = .ok (.aload_n 0, 1) := by decide +kernel
theorem dX11_degreeOf_3 : decode cX11_degreeOf 3 = .ok (.getfield 9, 3) := by decide +kernel
theorem q_256 : (Jvm.Cond.fieldLink "ChipfoldModel" (9 : Nat) "ChipfoldModel" "edges" "[[I") ∈ WG := wg_5 (List.mem_of_getElem? (i := 161) (by decide +kernel)) (by decide +kernel)
theorem dX11_degreeOf_6 : decode cX11_degreeOf 6 = .ok (.iload_n 1, 1) := by decide +kernel
theorem dX11_degreeOf_7 : decode cX11_degreeOf 7 = .ok (.aaload, 1) := by decide +kernel
theorem dX11_degreeOf_8 : decode cX11_degreeOf 8 = .ok (.astore_n 3, 1) := by decide +kernel
theorem dX11_degreeOf_9 : decode cX11_degreeOf 9 = .ok (.aload_n 3, 1) := by decide +kernel
theorem dX11_degreeOf_10 : decode cX11_degreeOf 10 = .ok (.arraylength, 1) := by decide +kernel
theorem dX11_degreeOf_11 : decode cX11_degreeOf 11 = .ok (.istore 4, 2) := by decide +kernel
theorem dX11_degreeOf_13 : decode cX11_degreeOf 13 = .ok (.iconst 0, 1) := by decide +kernel
theorem dX11_degreeOf_14 : decode cX11_degreeOf 14 = .ok (.istore 5, 2) := by decide +kernel
theorem dX11_degreeOf_16 : decode cX11_degreeOf 16 = .ok (.iload 5, 2) := by decide +kernel
theorem dX11_degreeOf_18 : decode cX11_degreeOf 18 = .ok (.iload 4, 2) := by decide +kernel
theorem dX11_degreeOf_20 : decode cX11_degreeOf 20 = .ok (.if_icmp .ge 20, 3) := by decide +kernel
theorem dX11_degreeOf_40 : decode cX11_degreeOf 40 = .ok (.iload_n 2, 1) := by decide +kernel
theorem dX11_degreeOf_41 : decode cX11_degreeOf 41 = .ok (.ireturn, 1) := by decide +kernel
theorem dX11_degreeOf_23 : decode cX11_degreeOf 23 = .ok (.aload_n 3, 1) := by decide +kernel
theorem dX11_degreeOf_24 : decode cX11_degreeOf 24 = .ok (.iload 5, 2) := by decide +kernel
theorem dX11_degreeOf_26 : decode cX11_degreeOf 26 = .ok (.iaload, 1) := by decide +kernel
theorem dX11_degreeOf_27 : decode cX11_degreeOf 27 = .ok (.istore 6, 2) := by decide +kernel
theorem dX11_degreeOf_29 : decode cX11_degreeOf 29 = .ok (.iload_n 2, 1) := by decide +kernel
theorem dX11_degreeOf_30 : decode cX11_degreeOf 30 = .ok (.iload 6, 2) := by decide +kernel
theorem dX11_degreeOf_32 : decode cX11_degreeOf 32 = .ok (.iadd, 1) := by decide +kernel
theorem dX11_degreeOf_33 : decode cX11_degreeOf 33 = .ok (.istore_n 2, 1) := by decide +kernel
theorem dX11_degreeOf_34 : decode cX11_degreeOf 34 = .ok (.iinc 5 1, 3) := by decide +kernel
theorem dX11_degreeOf_37 : decode cX11_degreeOf 37 = .ok (.goto (-21), 3) := by decide +kernel
theorem dX11_can_0 : decode cX11_can 0 = .ok (.iload_n 2, 1) := by decide +kernel
theorem dX11_can_1 : decode cX11_can 1 = .ok (.aload_n 0, 1) := by decide +kernel
theorem dX11_can_2 : decode cX11_can 2 = .ok (.getfield 37, 3) := by decide +kernel
theorem q_257 : (Jvm.Cond.fieldLink "ChipfoldModel" (37 : Nat) "ChipfoldModel" "sink" "I") ∈ WG := wg_5 (List.mem_of_getElem? (i := 169) (by decide +kernel)) (by decide +kernel)
theorem dX11_can_5 : decode cX11_can 5 = .ok (.if_icmp .eq 26, 3) := by decide +kernel
theorem dX11_can_31 : decode cX11_can 31 = .ok (.iconst 0, 1) := by decide +kernel
theorem dX11_can_32 : decode cX11_can 32 = .ok (.ireturn, 1) := by decide +kernel
theorem dX11_can_8 : decode cX11_can 8 = .ok (.aload_n 0, 1) := by decide +kernel
theorem dX11_can_9 : decode cX11_can 9 = .ok (.iload_n 2, 1) := by decide +kernel
theorem dX11_can_10 : decode cX11_can 10 = .ok (.invokevirtual 64, 3) := by decide +kernel
theorem q_258 : (Jvm.Cond.code ({ cls := "ChipfoldModel", name := "degreeOf", desc := "(I)I" } : Jvm.MethodName) prog_13_method_11_code (7 : Nat) (Option.some Jvm.ClassFile.FieldType.int)) ∈ WG := wg_5 (List.mem_of_getElem? (i := 236) rfl) rfl
theorem q_259 : (Jvm.Cond.selects "ChipfoldModel" ({ cls := "ChipfoldModel", name := "degreeOf", desc := "(I)I" } : Jvm.MethodName) ({ cls := "ChipfoldModel", name := "degreeOf", desc := "(I)I" } : Jvm.MethodName)) ∈ WG := wg_0 (by decide +kernel) (by decide +kernel)
theorem q_260 : (Jvm.Cond.methodLink "ChipfoldModel" (64 : Nat) ({ cls := "ChipfoldModel", name := "degreeOf", desc := "(I)I" } : Jvm.MethodName)) ∈ WG := wg_5 (List.mem_of_getElem? (i := 233) (by decide +kernel)) (by decide +kernel)
theorem q_261 : (Jvm.Cond.instanceMethod ({ cls := "ChipfoldModel", name := "degreeOf", desc := "(I)I" } : Jvm.MethodName)) ∈ WG := wg_5 (List.mem_of_getElem? (i := 235) (by decide +kernel)) (by decide +kernel)
theorem dX11_can_13 : decode cX11_can 13 = .ok (.ifCond .le 18, 3) := by decide +kernel
theorem dX11_can_16 : decode cX11_can 16 = .ok (.aload_n 1, 1) := by decide +kernel
theorem dX11_can_17 : decode cX11_can 17 = .ok (.iload_n 2, 1) := by decide +kernel
theorem dX11_can_18 : decode cX11_can 18 = .ok (.iaload, 1) := by decide +kernel
theorem dX11_can_19 : decode cX11_can 19 = .ok (.aload_n 0, 1) := by decide +kernel
theorem dX11_can_20 : decode cX11_can 20 = .ok (.iload_n 2, 1) := by decide +kernel
theorem dX11_can_21 : decode cX11_can 21 = .ok (.invokevirtual 64, 3) := by decide +kernel
theorem dX11_can_24 : decode cX11_can 24 = .ok (.if_icmp .lt 7, 3) := by decide +kernel
theorem dX11_can_27 : decode cX11_can 27 = .ok (.iconst 1, 1) := by decide +kernel
theorem dX11_can_28 : decode cX11_can 28 = .ok (.goto 4, 3) := by decide +kernel
theorem dX11_topples_0 : decode cX11_topples 0 = .ok (.aload_n 1, 1) := by decide +kernel
theorem dX11_topples_1 : decode cX11_topples 1 = .ok (.iload_n 2, 1) := by decide +kernel
theorem dX11_topples_2 : decode cX11_topples 2 = .ok (.dup2, 1) := by decide +kernel
theorem dX11_topples_3 : decode cX11_topples 3 = .ok (.iaload, 1) := by decide +kernel
theorem dX11_topples_4 : decode cX11_topples 4 = .ok (.iload_n 3, 1) := by decide +kernel
theorem dX11_topples_5 : decode cX11_topples 5 = .ok (.aload_n 0, 1) := by decide +kernel
theorem dX11_topples_6 : decode cX11_topples 6 = .ok (.iload_n 2, 1) := by decide +kernel
theorem dX11_topples_7 : decode cX11_topples 7 = .ok (.invokevirtual 64, 3) := by decide +kernel
theorem dX11_topples_10 : decode cX11_topples 10 = .ok (.imul, 1) := by decide +kernel
theorem dX11_topples_11 : decode cX11_topples 11 = .ok (.isub, 1) := by decide +kernel
theorem dX11_topples_12 : decode cX11_topples 12 = .ok (.iastore, 1) := by decide +kernel
theorem dX11_topples_13 : decode cX11_topples 13 = .ok (.iconst 0, 1) := by decide +kernel
theorem dX11_topples_14 : decode cX11_topples 14 = .ok (.istore 4, 2) := by decide +kernel
theorem dX11_topples_16 : decode cX11_topples 16 = .ok (.iload 4, 2) := by decide +kernel
theorem dX11_topples_18 : decode cX11_topples 18 = .ok (.aload_n 0, 1) := by decide +kernel
theorem dX11_topples_19 : decode cX11_topples 19 = .ok (.getfield 33, 3) := by decide +kernel
theorem dX11_topples_22 : decode cX11_topples 22 = .ok (.if_icmp .ge 27, 3) := by decide +kernel
theorem dX11_topples_49 : decode cX11_topples 49 = .ok (.return_, 1) := by decide +kernel
theorem dX11_topples_25 : decode cX11_topples 25 = .ok (.aload_n 1, 1) := by decide +kernel
theorem dX11_topples_26 : decode cX11_topples 26 = .ok (.iload 4, 2) := by decide +kernel
theorem dX11_topples_28 : decode cX11_topples 28 = .ok (.dup2, 1) := by decide +kernel
theorem dX11_topples_29 : decode cX11_topples 29 = .ok (.iaload, 1) := by decide +kernel
theorem dX11_topples_30 : decode cX11_topples 30 = .ok (.iload_n 3, 1) := by decide +kernel
theorem dX11_topples_31 : decode cX11_topples 31 = .ok (.aload_n 0, 1) := by decide +kernel
theorem dX11_topples_32 : decode cX11_topples 32 = .ok (.getfield 9, 3) := by decide +kernel
theorem dX11_topples_35 : decode cX11_topples 35 = .ok (.iload_n 2, 1) := by decide +kernel
theorem dX11_topples_36 : decode cX11_topples 36 = .ok (.aaload, 1) := by decide +kernel
theorem dX11_topples_37 : decode cX11_topples 37 = .ok (.iload 4, 2) := by decide +kernel
theorem dX11_topples_39 : decode cX11_topples 39 = .ok (.iaload, 1) := by decide +kernel
theorem dX11_topples_40 : decode cX11_topples 40 = .ok (.imul, 1) := by decide +kernel
theorem dX11_topples_41 : decode cX11_topples 41 = .ok (.iadd, 1) := by decide +kernel
theorem dX11_topples_42 : decode cX11_topples 42 = .ok (.iastore, 1) := by decide +kernel
theorem dX11_topples_43 : decode cX11_topples 43 = .ok (.iinc 4 1, 3) := by decide +kernel
theorem dX11_topples_46 : decode cX11_topples 46 = .ok (.goto (-30), 3) := by decide +kernel
set_option maxRecDepth 100000 in
set_option maxHeartbeats 400000 in
theorem c_X11_thrown {l : Launch} {D : va_G} {k : Nat → ClassId} (mo : Nat) (e0 : Nat) (c1 : Nat) (c2 : Nat) (c3 : Nat) (c4 : Nat) (c5 : Nat) (n : Nat) (z : Nat) (sw : Int32) (sd : Int32) (th : Int32)  : CM l D k yX11_thrown cX11_thrown 1 (some .int)  0 0 [.ref mo] [(mo, .inr (15, [.ref e0, .ref c1, .ref c2, .ref c3, .ref c4, .ref c5, .null, .int (nI n), .int (nI z), .int sw, .int sd, .int th]))] (is1 (some (.int th)) [(mo, .inr (15, [.ref e0, .ref c1, .ref c2, .ref c3, .ref c4, .ref c5, .null, .int (nI n), .int (nI z), .int sw, .int sd, .int th]))]) 0 0 0 := by
  refine CM.of (lv0 := [(0, .ref mo)]) (by decide +kernel) (Nat.le_of_ble_eq_true rfl) rfl ?_
  intro p e s m below meth c C hr hlk hin had
  refine g_aload_n (pc := 0) C 0 rfl rfl dX11_thrown_0 ?_
  refine g_get (pc := 1) C (T := TX11) inX11 0 rfl rfl 11 (by decide) q_244 rfl rfl dX11_thrown_1 ?_
  exact g_iret (pc := 4) C hr hlk (by first | decide | omega) (by first | decide | omega) (by first | decide | omega) dX11_thrown_4 ⟨rfl, rfl⟩
def inR (v lo hi : Int32) : Bool := decide (¬ v < lo ∧ ¬ hi < v)
set_option maxRecDepth 100000 in
set_option maxHeartbeats 400000 in
theorem c_X11_in {l : Launch} {D : va_G} {k : Nat → ClassId} (v : Int32) (lo : Int32) (hi : Int32)  : CM l D k yX11_in cX11_in 3 (some .boolean)  0 0 [.int v, .int lo, .int hi] [] (is1 (some (.int (bI (inR v lo hi)))) []) 0 0 0 := by
  refine CM.of (lv0 := [(0, .int v), (1, .int lo), (2, .int hi)]) (by decide +kernel) (Nat.le_of_ble_eq_true rfl) rfl ?_
  intro p e s m below meth c C hr hlk hin had
  refine g_iload_n (pc := 0) C 0 rfl rfl dX11_in_0 ?_
  refine g_iload_n (pc := 1) C 1 rfl rfl dX11_in_1 ?_
  refine g_icmp_lt (pc := 2) C 14 (by decide) dX11_in_2 (fun c_2 => ?_) (fun c_2 => ?_)
  · refine g_iconst (pc := 14) (v := 0) C (by decide) dX11_in_14 ?_
    refine G.eqs (st' := [.int (bI (inR v lo hi))]) (congrArg (fun z9 => [Value.int z9]) (show (0 : Int32) = (bI (inR v lo hi)) from by simp [inR, bI, *])) ?_
    exact g_zret (pc := 15) C hr (by first | rfl | exact bI_nar _) hlk (by first | decide | omega) (by first | decide | omega) (by first | decide | omega) dX11_in_15 ⟨rfl, rfl⟩
  · refine g_iload_n (pc := 5) C 0 rfl rfl dX11_in_5 ?_
    refine g_iload_n (pc := 6) C 2 rfl rfl dX11_in_6 ?_
    refine g_icmp_gt (pc := 7) C 14 (by decide) dX11_in_7 (fun c_7 => ?_) (fun c_7 => ?_)
    · refine g_iconst (pc := 14) (v := 0) C (by decide) dX11_in_14 ?_
      refine G.eqs (st' := [.int (bI (inR v lo hi))]) (congrArg (fun z9 => [Value.int z9]) (show (0 : Int32) = (bI (inR v lo hi)) from by simp [inR, bI, *])) ?_
      exact g_zret (pc := 15) C hr (by first | rfl | exact bI_nar _) hlk (by first | decide | omega) (by first | decide | omega) (by first | decide | omega) dX11_in_15 ⟨rfl, rfl⟩
    · refine g_iconst (pc := 10) (v := 1) C (by decide) dX11_in_10 ?_
      refine g_goto (pc := 11) C 15 (by decide) dX11_in_11 ?_
      refine G.eqs (st' := [.int (bI (inR v lo hi))]) (congrArg (fun z9 => [Value.int z9]) (show (1 : Int32) = (bI (inR v lo hi)) from by simp [inR, bI, *])) ?_
      exact g_zret (pc := 15) C hr (by first | rfl | exact bI_nar _) hlk (by first | decide | omega) (by first | decide | omega) (by first | decide | omega) dX11_in_15 ⟨rfl, rfl⟩
theorem inR_v {n v : Nat} (hv : v < 1000) (hn : n ≤ 6) : inR (nI v) 0 (nI n - 1) = decide (v < n) := by
  unfold inR
  rw [decide_eq_decide]
  have h1 : ¬ nI v < 0 := nI_pos (by omega)
  rcases Nat.eq_zero_or_pos n with h0 | h0
  · subst h0
    have h3 : (nI 0 - 1 : Int32).toInt = -1 := by decide
    have h2 : (nI 0 - 1 : Int32) < nI v := by
      rw [Int32.lt_iff_toInt_lt, nI_toInt (by omega), h3]
      omega
    simp [h1, h2]
  · rw [show (nI n - 1 : Int32) = nI (n - 1) from by rw [show (1 : Int32) = nI 1 from rfl, pk_sub h0]]
    rw [nI_ltI (by omega) (by omega)]
    simp [h1]
    omega
set_option maxRecDepth 100000 in
set_option maxHeartbeats 400000 in
theorem c_X11_isVertex {l : Launch} {D : va_G} {k : Nat → ClassId} (mo : Nat) (e0 : Nat) (c1 : Nat) (c2 : Nat) (c3 : Nat) (c4 : Nat) (c5 : Nat) (n : Nat) (z : Nat) (sw : Int32) (sd : Int32) (th : Int32) (v : Nat) (hv : v < 1000) (hn : n ≤ 6) : CM l D k yX11_isVertex cX11_isVertex 2 (some .boolean)  1 22 [.ref mo, .int (nI v)] [(mo, .inr (15, [.ref e0, .ref c1, .ref c2, .ref c3, .ref c4, .ref c5, .null, .int (nI n), .int (nI z), .int sw, .int sd, .int th]))] (is1 (some (.int (bI (decide (v < n))))) [(mo, .inr (15, [.ref e0, .ref c1, .ref c2, .ref c3, .ref c4, .ref c5, .null, .int (nI n), .int (nI z), .int sw, .int sd, .int th]))]) 0 0 0 := by
  refine CM.of (lv0 := [(0, .ref mo), (1, .int (nI v))]) (by decide +kernel) (Nat.le_of_ble_eq_true rfl) rfl ?_
  intro p e s m below meth c C hr hlk hin had
  refine g_iload_n (pc := 0) C 1 rfl rfl dX11_isVertex_0 ?_
  refine g_iconst (pc := 1) (v := 0) C (by decide) dX11_isVertex_1 ?_
  refine g_aload_n (pc := 2) C 0 rfl rfl dX11_isVertex_2 ?_
  refine g_get (pc := 3) C (T := TX11) inX11 0 rfl rfl 7 (by decide) q_245 rfl rfl dX11_isVertex_3 ?_
  refine g_iconst (pc := 6) (v := 1) C (by decide) dX11_isVertex_6 ?_
  refine g_isub (pc := 7) C dX11_isVertex_7 ?_
  refine g_callS (pc := 8) (cells := 0) (slots := 0) (g := 0) (As := [.int (nI v), .int 0, .int ((nI n) - 1)]) (st := []) (b := 0) C (nA := 3) rfl (c_X11_in (nI v) 0 ((nI n) - 1) ) q_248 q_249 q_247 q_246 (by decide +kernel) dX11_isVertex_8 ⟨Nat.le_of_ble_eq_true rfl, Nat.le_of_ble_eq_true rfl⟩ [] [0] rfl (wr := [(mo, .inr (15, [.ref e0, .ref c1, .ref c2, .ref c3, .ref c4, .ref c5, .null, .int (nI n), .int (nI z), .int sw, .int sd, .int th]))]) rfl (by decide) (by decide) (by decide) (Nat.le_of_ble_eq_true rfl) ⟨Nat.le_of_ble_eq_true rfl, Nat.le_of_ble_eq_true rfl⟩ (fun rv w1 h1 => ?_)
  obtain ⟨rfl, rfl⟩ := h1
  refine G.aft [0] (ws' := [(mo, .inr (15, [.ref e0, .ref c1, .ref c2, .ref c3, .ref c4, .ref c5, .null, .int (nI n), .int (nI z), .int sw, .int sd, .int th]))]) (st' := [.int (bI (inR (nI v) 0 ((nI n) - 1)))]) (cells' := 0) (slots' := 0) (g' := 0) (by decide) rfl rfl rfl rfl rfl ?_
  refine G.eqs (st' := [.int (bI (decide (v < n)))]) (congrArg (fun z9 => [Value.int z9]) (show ((bI (inR (nI v) 0 ((nI n) - 1))) : Int32) = (bI (decide (v < n))) from by rw [inR_v hv hn])) ?_
  exact g_zret (pc := 11) C hr (by first | rfl | exact bI_nar _) hlk (by first | decide | omega) (by first | decide | omega) (by first | decide | omega) dX11_isVertex_11 ⟨rfl, rfl⟩
set_option maxRecDepth 100000 in
set_option maxHeartbeats 400000 in
theorem c_X11_begin {l : Launch} {D : va_G} {k : Nat → ClassId} (mo : Nat) (e0 : Nat) (c1 : Nat) (c2 : Nat) (c3 : Nat) (c4 : Nat) (c5 : Nat) (n : Nat) (z : Nat) (sw : Int32) (sd : Int32) (th : Int32)  : CM l D k yX11_begin cX11_begin 1 none  0 0 [.ref mo] [(mo, .inr (15, [.ref e0, .ref c1, .ref c2, .ref c3, .ref c4, .ref c5, .null, .int (nI n), .int (nI z), .int sw, .int sd, .int th]))] (fun rv9 w9 => rv9 = none ∧ ∃ (b1 : Nat) (b2 : Nat) (b3 : Nat) (b4 : Nat) (b5 : Nat), w9 = [(mo, .inr (15, [.ref e0, .ref b1, .ref b2, .ref b3, .ref b4, .ref b5, .null, .int (nI n), .int (nI z), .int 0, .int sd, .int th])), (b1, aI k 6 (fun _ => 0)), (b2, aI k 6 (fun _ => 0)), (b3, aI k 6 (fun _ => 0)), (b4, aI k 6 (fun _ => 0)), (b5, aI k 6 (fun _ => 0))]) 5 30 5 := by
  refine CM.of (lv0 := [(0, .ref mo)]) (by decide +kernel) (Nat.le_of_ble_eq_true rfl) rfl ?_
  intro p e s m below meth c C hr hlk hin had
  refine g_aload_n (pc := 0) C 0 rfl rfl dX11_begin_0 ?_
  refine g_bipush (pc := 1) (v := 6) C (by decide) dX11_begin_1 ?_
  refine g_newI (pc := 3) (cells := 0) (slots := 0) (g := 0) C 6 q_4 (by decide) (by decide) (Nat.le_of_ble_eq_true rfl) (Nat.le_of_ble_eq_true rfl) (Nat.le_of_ble_eq_true rfl) dX11_begin_3 (fun q1 => ?_)
  refine G.eqw (ws' := [(mo, .inr (15, [.ref e0, .ref c1, .ref c2, .ref c3, .ref c4, .ref c5, .null, .int (nI n), .int (nI z), .int sw, .int sd, .int th])), (q1, aI k 6 (fun _ => 0))]) rfl ?_
  refine g_put (pc := 5) C (T := TX11) inX11 0 rfl rfl 1 (by decide) q_250 rfl tyX11 tyX11_ok nmX11 rfl [(mo, .inr (15, [.ref e0, .ref q1, .ref c2, .ref c3, .ref c4, .ref c5, .null, .int (nI n), .int (nI z), .int sw, .int sd, .int th])), (q1, aI k 6 (fun _ => 0))] (tyX11_ok 1 (by decide)) rfl rfl (Nat.le_of_ble_eq_true rfl) rfl dX11_begin_5 ?_
  refine g_aload_n (pc := 8) C 0 rfl rfl dX11_begin_8 ?_
  refine g_bipush (pc := 9) (v := 6) C (by decide) dX11_begin_9 ?_
  refine g_newI (pc := 11) (cells := 1) (slots := 6) (g := 1) C 6 q_4 (by decide) (by decide) (Nat.le_of_ble_eq_true rfl) (Nat.le_of_ble_eq_true rfl) (Nat.le_of_ble_eq_true rfl) dX11_begin_11 (fun q2 => ?_)
  refine G.eqw (ws' := [(mo, .inr (15, [.ref e0, .ref q1, .ref c2, .ref c3, .ref c4, .ref c5, .null, .int (nI n), .int (nI z), .int sw, .int sd, .int th])), (q1, aI k 6 (fun _ => 0)), (q2, aI k 6 (fun _ => 0))]) rfl ?_
  refine g_put (pc := 13) C (T := TX11) inX11 0 rfl rfl 2 (by decide) q_251 rfl tyX11 tyX11_ok nmX11 rfl [(mo, .inr (15, [.ref e0, .ref q1, .ref q2, .ref c3, .ref c4, .ref c5, .null, .int (nI n), .int (nI z), .int sw, .int sd, .int th])), (q1, aI k 6 (fun _ => 0)), (q2, aI k 6 (fun _ => 0))] (tyX11_ok 2 (by decide)) rfl rfl (Nat.le_of_ble_eq_true rfl) rfl dX11_begin_13 ?_
  refine g_aload_n (pc := 16) C 0 rfl rfl dX11_begin_16 ?_
  refine g_bipush (pc := 17) (v := 6) C (by decide) dX11_begin_17 ?_
  refine g_newI (pc := 19) (cells := 2) (slots := 12) (g := 2) C 6 q_4 (by decide) (by decide) (Nat.le_of_ble_eq_true rfl) (Nat.le_of_ble_eq_true rfl) (Nat.le_of_ble_eq_true rfl) dX11_begin_19 (fun q3 => ?_)
  refine G.eqw (ws' := [(mo, .inr (15, [.ref e0, .ref q1, .ref q2, .ref c3, .ref c4, .ref c5, .null, .int (nI n), .int (nI z), .int sw, .int sd, .int th])), (q1, aI k 6 (fun _ => 0)), (q2, aI k 6 (fun _ => 0)), (q3, aI k 6 (fun _ => 0))]) rfl ?_
  refine g_put (pc := 21) C (T := TX11) inX11 0 rfl rfl 3 (by decide) q_252 rfl tyX11 tyX11_ok nmX11 rfl [(mo, .inr (15, [.ref e0, .ref q1, .ref q2, .ref q3, .ref c4, .ref c5, .null, .int (nI n), .int (nI z), .int sw, .int sd, .int th])), (q1, aI k 6 (fun _ => 0)), (q2, aI k 6 (fun _ => 0)), (q3, aI k 6 (fun _ => 0))] (tyX11_ok 3 (by decide)) rfl rfl (Nat.le_of_ble_eq_true rfl) rfl dX11_begin_21 ?_
  refine g_aload_n (pc := 24) C 0 rfl rfl dX11_begin_24 ?_
  refine g_bipush (pc := 25) (v := 6) C (by decide) dX11_begin_25 ?_
  refine g_newI (pc := 27) (cells := 3) (slots := 18) (g := 3) C 6 q_4 (by decide) (by decide) (Nat.le_of_ble_eq_true rfl) (Nat.le_of_ble_eq_true rfl) (Nat.le_of_ble_eq_true rfl) dX11_begin_27 (fun q4 => ?_)
  refine G.eqw (ws' := [(mo, .inr (15, [.ref e0, .ref q1, .ref q2, .ref q3, .ref c4, .ref c5, .null, .int (nI n), .int (nI z), .int sw, .int sd, .int th])), (q1, aI k 6 (fun _ => 0)), (q2, aI k 6 (fun _ => 0)), (q3, aI k 6 (fun _ => 0)), (q4, aI k 6 (fun _ => 0))]) rfl ?_
  refine g_put (pc := 29) C (T := TX11) inX11 0 rfl rfl 4 (by decide) q_253 rfl tyX11 tyX11_ok nmX11 rfl [(mo, .inr (15, [.ref e0, .ref q1, .ref q2, .ref q3, .ref q4, .ref c5, .null, .int (nI n), .int (nI z), .int sw, .int sd, .int th])), (q1, aI k 6 (fun _ => 0)), (q2, aI k 6 (fun _ => 0)), (q3, aI k 6 (fun _ => 0)), (q4, aI k 6 (fun _ => 0))] (tyX11_ok 4 (by decide)) rfl rfl (Nat.le_of_ble_eq_true rfl) rfl dX11_begin_29 ?_
  refine g_aload_n (pc := 32) C 0 rfl rfl dX11_begin_32 ?_
  refine g_bipush (pc := 33) (v := 6) C (by decide) dX11_begin_33 ?_
  refine g_newI (pc := 35) (cells := 4) (slots := 24) (g := 4) C 6 q_4 (by decide) (by decide) (Nat.le_of_ble_eq_true rfl) (Nat.le_of_ble_eq_true rfl) (Nat.le_of_ble_eq_true rfl) dX11_begin_35 (fun q5 => ?_)
  refine G.eqw (ws' := [(mo, .inr (15, [.ref e0, .ref q1, .ref q2, .ref q3, .ref q4, .ref c5, .null, .int (nI n), .int (nI z), .int sw, .int sd, .int th])), (q1, aI k 6 (fun _ => 0)), (q2, aI k 6 (fun _ => 0)), (q3, aI k 6 (fun _ => 0)), (q4, aI k 6 (fun _ => 0)), (q5, aI k 6 (fun _ => 0))]) rfl ?_
  refine g_put (pc := 37) C (T := TX11) inX11 0 rfl rfl 5 (by decide) q_254 rfl tyX11 tyX11_ok nmX11 rfl [(mo, .inr (15, [.ref e0, .ref q1, .ref q2, .ref q3, .ref q4, .ref q5, .null, .int (nI n), .int (nI z), .int sw, .int sd, .int th])), (q1, aI k 6 (fun _ => 0)), (q2, aI k 6 (fun _ => 0)), (q3, aI k 6 (fun _ => 0)), (q4, aI k 6 (fun _ => 0)), (q5, aI k 6 (fun _ => 0))] (tyX11_ok 5 (by decide)) rfl rfl (Nat.le_of_ble_eq_true rfl) rfl dX11_begin_37 ?_
  refine g_aload_n (pc := 40) C 0 rfl rfl dX11_begin_40 ?_
  refine g_iconst (pc := 41) (v := 0) C (by decide) dX11_begin_41 ?_
  refine g_put (pc := 42) C (T := TX11) inX11 0 rfl rfl 9 (by decide) q_255 rfl tyX11 tyX11_ok nmX11 rfl [(mo, .inr (15, [.ref e0, .ref q1, .ref q2, .ref q3, .ref q4, .ref q5, .null, .int (nI n), .int (nI z), .int 0, .int sd, .int th])), (q1, aI k 6 (fun _ => 0)), (q2, aI k 6 (fun _ => 0)), (q3, aI k 6 (fun _ => 0)), (q4, aI k 6 (fun _ => 0)), (q5, aI k 6 (fun _ => 0))] (tyX11_ok 9 (by decide)) rfl (by rfl) (Nat.le_of_ble_eq_true rfl) rfl dX11_begin_42 ?_
  exact g_vret (pc := 45) C hr hlk (by first | decide | omega) (by first | decide | omega) (by first | decide | omega) dX11_begin_45 ⟨rfl, q1, q2, q3, q4, q5, rfl⟩
set_option maxRecDepth 100000 in
set_option maxHeartbeats 400000 in
theorem c_X11_degreeOf {l : Launch} {D : va_G} {k : Nat → ClassId} (mo : Nat) (e0 : Nat) (c1 : Nat) (c2 : Nat) (c3 : Nat) (c4 : Nat) (c5 : Nat) (er : Nat → Nat) (n : Nat) (z : Nat) (sw : Int32) (sd : Int32) (th : Int32) (M : Nat → Nat → Int32) (v : Nat) (hv : v < 6) : CM l D k yX11_degreeOf cX11_degreeOf 7 (some .int)  0 0 [.ref mo, .int (nI v)] [(mo, .inr (15, [.ref e0, .ref c1, .ref c2, .ref c3, .ref c4, .ref c5, .null, .int (nI n), .int (nI z), .int sw, .int sd, .int th])), (e0, aR k 3 6 (fun i9 => if i9 < 6 then some (er i9) else none)), ((er 0), aI k 6 (M 0)), ((er 1), aI k 6 (M 1)), ((er 2), aI k 6 (M 2)), ((er 3), aI k 6 (M 3)), ((er 4), aI k 6 (M 4)), ((er 5), aI k 6 (M 5))] (is1 (some (.int (rSum (M v) 6))) [(mo, .inr (15, [.ref e0, .ref c1, .ref c2, .ref c3, .ref c4, .ref c5, .null, .int (nI n), .int (nI z), .int sw, .int sd, .int th])), (e0, aR k 3 6 (fun i9 => if i9 < 6 then some (er i9) else none)), ((er 0), aI k 6 (M 0)), ((er 1), aI k 6 (M 1)), ((er 2), aI k 6 (M 2)), ((er 3), aI k 6 (M 3)), ((er 4), aI k 6 (M 4)), ((er 5), aI k 6 (M 5))]) 0 0 0 := by
  refine CM.of (lv0 := [(0, .ref mo), (1, .int (nI v))]) (by decide +kernel) (Nat.le_of_ble_eq_true rfl) rfl ?_
  intro p e s m below meth c C hr hlk hin had
  refine g_iconst (pc := 0) (v := 0) C (by decide) dX11_degreeOf_0 ?_
  refine g_istore_n (pc := 1) C [(2, .int 0), (0, .ref mo), (1, .int (nI v))] rfl dX11_degreeOf_1 (by decide) rfl ?_
  refine g_aload_n (pc := 2) C 1 rfl rfl dX11_degreeOf_2 ?_
  refine g_get (pc := 3) C (T := TX11) inX11 0 rfl rfl 0 (by decide) q_256 rfl rfl dX11_degreeOf_3 ?_
  refine g_iload_n (pc := 6) C 2 rfl rfl dX11_degreeOf_6 ?_
  refine g_aald (pc := 7) C (j := v) (b := er v) 1 rfl (by omega) (by decide) rfl (if_pos (by omega)) dX11_degreeOf_7 ?_
  refine g_astore_n (pc := 8) C [(3, .ref (er v)), (2, .int 0), (0, .ref mo), (1, .int (nI v))] rfl dX11_degreeOf_8 (by decide) rfl ?_
  refine g_aload_n (pc := 9) C 0 rfl rfl dX11_degreeOf_9 ?_
  refine g_alen (pc := 10) (a := (er v)) (cA := k 0) (x := (6, .inl (M v))) C (2 + v) (by rcases (show v = 0 ∨ v = 1 ∨ v = 2 ∨ v = 3 ∨ v = 4 ∨ v = 5 by omega) with h9 | h9 | h9 | h9 | h9 | h9 <;> rw [h9] <;> rfl) (t0 := 0) (ty := .int) rfl (v := (nI 6)) rfl dX11_degreeOf_10 ?_
  refine g_istore (pc := 11) C [(4, .int (nI 6)), (3, .ref (er v)), (2, .int 0), (0, .ref mo), (1, .int (nI v))] dX11_degreeOf_11 (by decide) rfl ?_
  refine g_iconst (pc := 13) (v := 0) C (by decide) dX11_degreeOf_13 ?_
  refine g_istore (pc := 14) C [(5, .int 0), (4, .int (nI 6)), (3, .ref (er v)), (2, .int 0), (0, .ref mo), (1, .int (nI v))] dX11_degreeOf_14 (by decide) rfl ?_
  have key_16 : ∀ (fuel : Nat) (i : Nat), i ≤ 6 → 6 - i < fuel → G p l e { frames := 0, cells := 0, slots := 0, locals := 0 } s m ([.ref mo, .int (nI v)] : List Value).toArray below meth c D 7 (va_A [(mo, .inr (15, [.ref e0, .ref c1, .ref c2, .ref c3, .ref c4, .ref c5, .null, .int (nI n), .int (nI z), .int sw, .int sd, .int th])), (e0, aR k 3 6 (fun i9 => if i9 < 6 then some (er i9) else none)), ((er 0), aI k 6 (M 0)), ((er 1), aI k 6 (M 1)), ((er 2), aI k 6 (M 2)), ((er 3), aI k 6 (M 3)), ((er 4), aI k 6 (M 4)), ((er 5), aI k 6 (M 5))] s.heap.size) (QM below D ([.ref mo, .int (nI v)] : List Value).toArray s [(mo, .inr (15, [.ref e0, .ref c1, .ref c2, .ref c3, .ref c4, .ref c5, .null, .int (nI n), .int (nI z), .int sw, .int sd, .int th])), (e0, aR k 3 6 (fun i9 => if i9 < 6 then some (er i9) else none)), ((er 0), aI k 6 (M 0)), ((er 1), aI k 6 (M 1)), ((er 2), aI k 6 (M 2)), ((er 3), aI k 6 (M 3)), ((er 4), aI k 6 (M 4)), ((er 5), aI k 6 (M 5))] (is1 (some (.int (rSum (M v) 6))) [(mo, .inr (15, [.ref e0, .ref c1, .ref c2, .ref c3, .ref c4, .ref c5, .null, .int (nI n), .int (nI z), .int sw, .int sd, .int th])), (e0, aR k 3 6 (fun i9 => if i9 < 6 then some (er i9) else none)), ((er 0), aI k 6 (M 0)), ((er 1), aI k 6 (M 1)), ((er 2), aI k 6 (M 2)), ((er 3), aI k 6 (M 3)), ((er 4), aI k 6 (M 4)), ((er 5), aI k 6 (M 5))]) 0 0 0) [(mo, .inr (15, [.ref e0, .ref c1, .ref c2, .ref c3, .ref c4, .ref c5, .null, .int (nI n), .int (nI z), .int sw, .int sd, .int th])), (e0, aR k 3 6 (fun i9 => if i9 < 6 then some (er i9) else none)), ((er 0), aI k 6 (M 0)), ((er 1), aI k 6 (M 1)), ((er 2), aI k 6 (M 2)), ((er 3), aI k 6 (M 3)), ((er 4), aI k 6 (M 4)), ((er 5), aI k 6 (M 5))] [(2, .int (rSum (M v) i)), (3, .ref (er v)), (4, .int (nI 6)), (5, .int (nI i))] 0 0 0 16 [] := by
    intro fuel
    induction fuel with
    | zero => intro i hi hm; exact absurd hm (Nat.not_lt_zero _)
    | succ fuel ih =>
      intro i hi hm
      have ih_16 := ih
      refine g_iload (pc := 16) C 3 rfl dX11_degreeOf_16 ?_
      refine g_iload (pc := 18) C 2 rfl dX11_degreeOf_18 ?_
      refine g_icmp_ge (pc := 20) C 40 (by decide) dX11_degreeOf_20 (fun c_20 => ?_) (fun c_20 => ?_)
      · refine g_iload_n (pc := 40) C 0 rfl rfl dX11_degreeOf_40 ?_
        refine G.eqs (st' := [.int (rSum (M v) 6)]) (congrArg (fun z9 => [Value.int z9]) (show ((rSum (M v) i) : Int32) = (rSum (M v) 6) from by { have h3 : i = 6 := (by { rcases Nat.lt_or_ge i 6 with q | q; exact absurd c_20 (nI_ge q (by omega)); omega }); rw [h3] })) ?_
        exact g_iret (pc := 41) C hr hlk (by first | decide | omega) (by first | decide | omega) (by first | decide | omega) dX11_degreeOf_41 ⟨rfl, rfl⟩
      · have hl20 : i < 6 := by rcases Nat.lt_or_ge i 6 with q | q; exact q; exact absurd (nI_le q (by omega)) c_20
        refine g_aload_n (pc := 23) C 1 rfl rfl dX11_degreeOf_23 ?_
        refine g_iload (pc := 24) C 3 rfl dX11_degreeOf_24 ?_
        refine g_iald_n (pc := 26) (a := (er v)) (n := 6) (f := (M v)) C (j := i) (2 + v) (by rcases (show v = 0 ∨ v = 1 ∨ v = 2 ∨ v = 3 ∨ v = 4 ∨ v = 5 by omega) with h9 | h9 | h9 | h9 | h9 | h9 <;> rw [h9] <;> rfl) (by omega) (by first | decide | omega) rfl dX11_degreeOf_26 ?_
        refine g_istore (pc := 27) C [(6, .int ((M v) i)), (2, .int (rSum (M v) i)), (3, .ref (er v)), (4, .int (nI 6)), (5, .int (nI i))] dX11_degreeOf_27 (by decide) rfl ?_
        refine g_iload_n (pc := 29) C 1 rfl rfl dX11_degreeOf_29 ?_
        refine g_iload (pc := 30) C 0 rfl dX11_degreeOf_30 ?_
        refine g_iadd (pc := 32) C dX11_degreeOf_32 ?_
        refine g_istore_n (pc := 33) C [(2, .int ((rSum (M v) i) + ((M v) i))), (6, .int ((M v) i)), (3, .ref (er v)), (4, .int (nI 6)), (5, .int (nI i))] rfl dX11_degreeOf_33 (by decide) rfl ?_
        refine g_iinc (pc := 34) (n := 1) (v := (nI (i + 1))) C 4 [(5, .int (nI (i + 1))), (2, .int ((rSum (M v) i) + ((M v) i))), (6, .int ((M v) i)), (3, .ref (er v)), (4, .int (nI 6))] rfl (nI_1 i) dX11_degreeOf_34 (by decide) rfl ?_
        refine g_goto (pc := 37) C 16 (by decide) dX11_degreeOf_37 ?_
        refine G.loc [1, 3, 4, 0] (lv' := [(2, .int ((rSum (M v) i) + ((M v) i))), (3, .ref (er v)), (4, .int (nI 6)), (5, .int (nI (i + 1)))]) rfl ?_
        refine G.eql (lv' := [(2, .int (rSum (M v) (i + 1))), (3, .ref (er v)), (4, .int (nI 6)), (5, .int (nI (i + 1)))]) (congrArg (β := List (Nat × Value)) (fun z9 => [(2, .int z9), (3, .ref (er v)), (4, .int (nI 6)), (5, .int (nI (i + 1)))]) (show (((rSum (M v) i) + ((M v) i)) : Int32) = (rSum (M v) (i + 1)) from by rfl)) ?_
        exact ih_16 (i + 1) (by omega) (by omega)
  refine G.loc [3, 2, 1, 0] (lv' := [(2, .int 0), (3, .ref (er v)), (4, .int (nI 6)), (5, .int 0)]) rfl ?_
  refine G.eql (lv' := [(2, .int (rSum (M v) 0)), (3, .ref (er v)), (4, .int (nI 6)), (5, .int (nI 0))]) ((congrArg (β := List (Nat × Value)) (fun z9 => [(2, .int z9), (3, .ref (er v)), (4, .int (nI 6)), (5, .int 0)]) (show (0 : Int32) = (rSum (M v) 0) from by first | rfl | exact nI_0.symm)).trans (congrArg (β := List (Nat × Value)) (fun z9 => [(2, .int (rSum (M v) 0)), (3, .ref (er v)), (4, .int (nI 6)), (5, .int z9)]) (show (0 : Int32) = (nI 0) from by first | rfl | exact nI_0.symm))) ?_
  exact key_16 (6 - 0 + 1) 0 (by omega) (Nat.lt_succ_self _)
/-- the reference: whether a vertex can topple -/
def rCan (z : Nat) (M : Nat → Nat → Int32) (f : Nat → Int32) (v : Nat) : Bool := decide (¬ v = z) && (decide (¬ rSum (M v) 6 ≤ 0) && decide (¬ f v < rSum (M v) 6))
set_option maxRecDepth 100000 in
set_option maxHeartbeats 400000 in
theorem c_X11_can {l : Launch} {D : va_G} {k : Nat → ClassId} (mo : Nat) (e0 : Nat) (c1 : Nat) (c2 : Nat) (c3 : Nat) (c4 : Nat) (c5 : Nat) (er : Nat → Nat) (n : Nat) (z : Nat) (sw : Int32) (sd : Int32) (th : Int32) (M : Nat → Nat → Int32) (pa : Nat) (f : Nat → Int32) (v : Nat) (hv : v < 6) (hz : z < 6) : CM l D k yX11_can cX11_can 3 (some .boolean)  1 26 [.ref mo, .ref pa, .int (nI v)] [(mo, .inr (15, [.ref e0, .ref c1, .ref c2, .ref c3, .ref c4, .ref c5, .null, .int (nI n), .int (nI z), .int sw, .int sd, .int th])), (e0, aR k 3 6 (fun i9 => if i9 < 6 then some (er i9) else none)), ((er 0), aI k 6 (M 0)), ((er 1), aI k 6 (M 1)), ((er 2), aI k 6 (M 2)), ((er 3), aI k 6 (M 3)), ((er 4), aI k 6 (M 4)), ((er 5), aI k 6 (M 5)), (pa, aI k 6 f)] (is1 (some (.int (bI (rCan z M f v)))) [(mo, .inr (15, [.ref e0, .ref c1, .ref c2, .ref c3, .ref c4, .ref c5, .null, .int (nI n), .int (nI z), .int sw, .int sd, .int th])), (e0, aR k 3 6 (fun i9 => if i9 < 6 then some (er i9) else none)), ((er 0), aI k 6 (M 0)), ((er 1), aI k 6 (M 1)), ((er 2), aI k 6 (M 2)), ((er 3), aI k 6 (M 3)), ((er 4), aI k 6 (M 4)), ((er 5), aI k 6 (M 5)), (pa, aI k 6 f)]) 0 0 0 := by
  refine CM.of (lv0 := [(0, .ref mo), (1, .ref pa), (2, .int (nI v))]) (by decide +kernel) (Nat.le_of_ble_eq_true rfl) rfl ?_
  intro p e s m below meth c C hr hlk hin had
  refine g_iload_n (pc := 0) C 2 rfl rfl dX11_can_0 ?_
  refine g_aload_n (pc := 1) C 0 rfl rfl dX11_can_1 ?_
  refine g_get (pc := 2) C (T := TX11) inX11 0 rfl rfl 8 (by decide) q_257 rfl rfl dX11_can_2 ?_
  refine g_icmp_eq (pc := 5) C 31 (by decide) dX11_can_5 (fun c_5 => ?_) (fun c_5 => ?_)
  · rw [nI_eq (by omega) (by omega)] at c_5
    refine g_iconst (pc := 31) (v := 0) C (by decide) dX11_can_31 ?_
    refine G.eqs (st' := [.int (bI (rCan z M f v))]) (congrArg (fun z9 => [Value.int z9]) (show (0 : Int32) = (bI (rCan z M f v)) from by simp [rCan, bI, *])) ?_
    exact g_zret (pc := 32) C hr (by first | rfl | exact bI_nar _) hlk (by first | decide | omega) (by first | decide | omega) (by first | decide | omega) dX11_can_32 ⟨rfl, rfl⟩
  · rw [nI_eq (by omega) (by omega)] at c_5
    refine g_aload_n (pc := 8) C 0 rfl rfl dX11_can_8 ?_
    refine g_iload_n (pc := 9) C 2 rfl rfl dX11_can_9 ?_
    refine g_callV (pc := 10) (cells := 0) (slots := 0) (g := 0) (As := [.int (nI v)]) (st := []) (T := TX11) (q0 := 0) C (nA := 1) rfl (c_X11_degreeOf mo e0 c1 c2 c3 c4 c5 er n z sw sd th M v (by first | assumption | decide | omega)) q_260 q_261 q_259 q_247 q_258 (by decide +kernel) rfl rfl dX11_can_10 ⟨Nat.le_of_ble_eq_true rfl, Nat.le_of_ble_eq_true rfl⟩ [0, 1, 2, 3, 4, 5, 6, 7] [8] rfl (wr := [(pa, aI k 6 f)]) rfl (by decide) (by decide) (by decide) (Nat.le_of_ble_eq_true rfl) ⟨Nat.le_of_ble_eq_true rfl, Nat.le_of_ble_eq_true rfl⟩ (fun rv w1 h1 => ?_)
    obtain ⟨rfl, rfl⟩ := h1
    refine G.aft [1, 2, 3, 4, 5, 6, 7, 8, 0] (ws' := [(mo, .inr (15, [.ref e0, .ref c1, .ref c2, .ref c3, .ref c4, .ref c5, .null, .int (nI n), .int (nI z), .int sw, .int sd, .int th])), (e0, aR k 3 6 (fun i9 => if i9 < 6 then some (er i9) else none)), ((er 0), aI k 6 (M 0)), ((er 1), aI k 6 (M 1)), ((er 2), aI k 6 (M 2)), ((er 3), aI k 6 (M 3)), ((er 4), aI k 6 (M 4)), ((er 5), aI k 6 (M 5)), (pa, aI k 6 f)]) (st' := [.int (rSum (M v) 6)]) (cells' := 0) (slots' := 0) (g' := 0) (by decide) rfl rfl rfl rfl rfl ?_
    refine g_if_le (pc := 13) C 31 (by decide) dX11_can_13 (fun c_13 => ?_) (fun c_13 => ?_)
    · refine g_iconst (pc := 31) (v := 0) C (by decide) dX11_can_31 ?_
      refine G.eqs (st' := [.int (bI (rCan z M f v))]) (congrArg (fun z9 => [Value.int z9]) (show (0 : Int32) = (bI (rCan z M f v)) from by simp [rCan, bI, *])) ?_
      exact g_zret (pc := 32) C hr (by first | rfl | exact bI_nar _) hlk (by first | decide | omega) (by first | decide | omega) (by first | decide | omega) dX11_can_32 ⟨rfl, rfl⟩
    · refine g_aload_n (pc := 16) C 1 rfl rfl dX11_can_16 ?_
      refine g_iload_n (pc := 17) C 2 rfl rfl dX11_can_17 ?_
      refine g_iald_n (pc := 18) C (j := v) 8 rfl (by omega) (by first | decide | omega) rfl dX11_can_18 ?_
      refine g_aload_n (pc := 19) C 0 rfl rfl dX11_can_19 ?_
      refine g_iload_n (pc := 20) C 2 rfl rfl dX11_can_20 ?_
      refine g_callV (pc := 21) (cells := 0) (slots := 0) (g := 0) (As := [.int (nI v)]) (st := [.int (f v)]) (T := TX11) (q0 := 0) C (nA := 1) rfl (c_X11_degreeOf mo e0 c1 c2 c3 c4 c5 er n z sw sd th M v (by first | assumption | decide | omega)) q_260 q_261 q_259 q_247 q_258 (by decide +kernel) rfl rfl dX11_can_21 ⟨Nat.le_of_ble_eq_true rfl, Nat.le_of_ble_eq_true rfl⟩ [0, 1, 2, 3, 4, 5, 6, 7] [8] rfl (wr := [(pa, aI k 6 f)]) rfl (by decide) (by decide) (by decide) (Nat.le_of_ble_eq_true rfl) ⟨Nat.le_of_ble_eq_true rfl, Nat.le_of_ble_eq_true rfl⟩ (fun rv w1 h1 => ?_)
      obtain ⟨rfl, rfl⟩ := h1
      refine G.aft [1, 2, 3, 4, 5, 6, 7, 8, 0] (ws' := [(mo, .inr (15, [.ref e0, .ref c1, .ref c2, .ref c3, .ref c4, .ref c5, .null, .int (nI n), .int (nI z), .int sw, .int sd, .int th])), (e0, aR k 3 6 (fun i9 => if i9 < 6 then some (er i9) else none)), ((er 0), aI k 6 (M 0)), ((er 1), aI k 6 (M 1)), ((er 2), aI k 6 (M 2)), ((er 3), aI k 6 (M 3)), ((er 4), aI k 6 (M 4)), ((er 5), aI k 6 (M 5)), (pa, aI k 6 f)]) (st' := [.int (rSum (M v) 6), .int (f v)]) (cells' := 0) (slots' := 0) (g' := 0) (by decide) rfl rfl rfl rfl rfl ?_
      refine g_icmp_lt (pc := 24) C 31 (by decide) dX11_can_24 (fun c_24 => ?_) (fun c_24 => ?_)
      · refine g_iconst (pc := 31) (v := 0) C (by decide) dX11_can_31 ?_
        refine G.eqs (st' := [.int (bI (rCan z M f v))]) (congrArg (fun z9 => [Value.int z9]) (show (0 : Int32) = (bI (rCan z M f v)) from by simp [rCan, bI, *])) ?_
        exact g_zret (pc := 32) C hr (by first | rfl | exact bI_nar _) hlk (by first | decide | omega) (by first | decide | omega) (by first | decide | omega) dX11_can_32 ⟨rfl, rfl⟩
      · refine g_iconst (pc := 27) (v := 1) C (by decide) dX11_can_27 ?_
        refine g_goto (pc := 28) C 32 (by decide) dX11_can_28 ?_
        refine G.eqs (st' := [.int (bI (rCan z M f v))]) (congrArg (fun z9 => [Value.int z9]) (show (1 : Int32) = (bI (rCan z M f v)) from by simp [rCan, bI, *])) ?_
        exact g_zret (pc := 32) C hr (by first | rfl | exact bI_nar _) hlk (by first | decide | omega) (by first | decide | omega) (by first | decide | omega) dX11_can_32 ⟨rfl, rfl⟩
def rTp (M : Nat → Nat → Int32) (x : Int32) (v : Nat) (f : Nat → Int32) : Nat → (Nat → Int32)
  | 0 => upd f v (f v - x * rSum (M v) 6)
  | w + 1 => upd (rTp M x v f w) w (rTp M x v f w w + x * M v w)
set_option maxRecDepth 100000 in
set_option maxHeartbeats 400000 in
theorem c_X11_topples {l : Launch} {D : va_G} {k : Nat → ClassId} (mo : Nat) (e0 : Nat) (c1 : Nat) (c2 : Nat) (c3 : Nat) (c4 : Nat) (c5 : Nat) (er : Nat → Nat) (n : Nat) (z : Nat) (sw : Int32) (sd : Int32) (th : Int32) (M : Nat → Nat → Int32) (pa : Nat) (f : Nat → Int32) (v : Nat) (x : Int32) (hv : v < 6) (hn : n ≤ 6) : CM l D k yX11_topples cX11_topples 5 none  1 26 [.ref mo, .ref pa, .int (nI v), .int x] [(mo, .inr (15, [.ref e0, .ref c1, .ref c2, .ref c3, .ref c4, .ref c5, .null, .int (nI n), .int (nI z), .int sw, .int sd, .int th])), (e0, aR k 3 6 (fun i9 => if i9 < 6 then some (er i9) else none)), ((er 0), aI k 6 (M 0)), ((er 1), aI k 6 (M 1)), ((er 2), aI k 6 (M 2)), ((er 3), aI k 6 (M 3)), ((er 4), aI k 6 (M 4)), ((er 5), aI k 6 (M 5)), (pa, aI k 6 f)] (is1 none [(mo, .inr (15, [.ref e0, .ref c1, .ref c2, .ref c3, .ref c4, .ref c5, .null, .int (nI n), .int (nI z), .int sw, .int sd, .int th])), (e0, aR k 3 6 (fun i9 => if i9 < 6 then some (er i9) else none)), ((er 0), aI k 6 (M 0)), ((er 1), aI k 6 (M 1)), ((er 2), aI k 6 (M 2)), ((er 3), aI k 6 (M 3)), ((er 4), aI k 6 (M 4)), ((er 5), aI k 6 (M 5)), (pa, aI k 6 (rTp M x v f n))]) 0 0 0 := by
  refine CM.of (lv0 := [(0, .ref mo), (1, .ref pa), (2, .int (nI v)), (3, .int x)]) (by decide +kernel) (Nat.le_of_ble_eq_true rfl) rfl ?_
  intro p e s m below meth c C hr hlk hin had
  refine g_aload_n (pc := 0) C 1 rfl rfl dX11_topples_0 ?_
  refine g_iload_n (pc := 1) C 2 rfl rfl dX11_topples_1 ?_
  refine g_dup2 (pc := 2) C rfl rfl dX11_topples_2 ?_
  refine g_iald_n (pc := 3) C (j := v) 8 rfl (by omega) (by first | decide | omega) rfl dX11_topples_3 ?_
  refine g_iload_n (pc := 4) C 3 rfl rfl dX11_topples_4 ?_
  refine g_aload_n (pc := 5) C 0 rfl rfl dX11_topples_5 ?_
  refine g_iload_n (pc := 6) C 2 rfl rfl dX11_topples_6 ?_
  refine g_callV (pc := 7) (cells := 0) (slots := 0) (g := 0) (As := [.int (nI v)]) (st := [.int x, .int (f v), .int (nI v), .ref pa]) (T := TX11) (q0 := 0) C (nA := 1) rfl (c_X11_degreeOf mo e0 c1 c2 c3 c4 c5 er n z sw sd th M v (by first | assumption | decide | omega)) q_260 q_261 q_259 q_247 q_258 (by decide +kernel) rfl rfl dX11_topples_7 ⟨Nat.le_of_ble_eq_true rfl, Nat.le_of_ble_eq_true rfl⟩ [0, 1, 2, 3, 4, 5, 6, 7] [8] rfl (wr := [(pa, aI k 6 f)]) rfl (by decide) (by decide) (by decide) (Nat.le_of_ble_eq_true rfl) ⟨Nat.le_of_ble_eq_true rfl, Nat.le_of_ble_eq_true rfl⟩ (fun rv w1 h1 => ?_)
  obtain ⟨rfl, rfl⟩ := h1
  refine G.aft [1, 2, 3, 4, 5, 6, 7, 8, 0] (ws' := [(mo, .inr (15, [.ref e0, .ref c1, .ref c2, .ref c3, .ref c4, .ref c5, .null, .int (nI n), .int (nI z), .int sw, .int sd, .int th])), (e0, aR k 3 6 (fun i9 => if i9 < 6 then some (er i9) else none)), ((er 0), aI k 6 (M 0)), ((er 1), aI k 6 (M 1)), ((er 2), aI k 6 (M 2)), ((er 3), aI k 6 (M 3)), ((er 4), aI k 6 (M 4)), ((er 5), aI k 6 (M 5)), (pa, aI k 6 f)]) (st' := [.int (rSum (M v) 6), .int x, .int (f v), .int (nI v), .ref pa]) (cells' := 0) (slots' := 0) (g' := 0) (by decide) rfl rfl rfl rfl rfl ?_
  refine g_imul (pc := 10) C dX11_topples_10 ?_
  refine g_isub (pc := 11) C dX11_topples_11 ?_
  refine g_iast_n (pc := 12) C (j := v) 8 [(mo, .inr (15, [.ref e0, .ref c1, .ref c2, .ref c3, .ref c4, .ref c5, .null, .int (nI n), .int (nI z), .int sw, .int sd, .int th])), (e0, aR k 3 6 (fun i9 => if i9 < 6 then some (er i9) else none)), ((er 0), aI k 6 (M 0)), ((er 1), aI k 6 (M 1)), ((er 2), aI k 6 (M 2)), ((er 3), aI k 6 (M 3)), ((er 4), aI k 6 (M 4)), ((er 5), aI k 6 (M 5)), (pa, aI k 6 (upd f v ((f v) - (x * (rSum (M v) 6)))))] rfl (by omega) (by first | decide | omega) rfl rfl dX11_topples_12 ?_
  refine g_iconst (pc := 13) (v := 0) C (by decide) dX11_topples_13 ?_
  refine g_istore (pc := 14) C [(4, .int 0), (0, .ref mo), (1, .ref pa), (2, .int (nI v)), (3, .int x)] dX11_topples_14 (by decide) rfl ?_
  have key_16 : ∀ (fuel : Nat) (w : Nat), w ≤ n → n - w < fuel → G p l e { frames := 1, cells := 0, slots := 0, locals := 26 } s m ([.ref mo, .ref pa, .int (nI v), .int x] : List Value).toArray below meth c D 5 (va_A [(mo, .inr (15, [.ref e0, .ref c1, .ref c2, .ref c3, .ref c4, .ref c5, .null, .int (nI n), .int (nI z), .int sw, .int sd, .int th])), (e0, aR k 3 6 (fun i9 => if i9 < 6 then some (er i9) else none)), ((er 0), aI k 6 (M 0)), ((er 1), aI k 6 (M 1)), ((er 2), aI k 6 (M 2)), ((er 3), aI k 6 (M 3)), ((er 4), aI k 6 (M 4)), ((er 5), aI k 6 (M 5)), (pa, aI k 6 f)] s.heap.size) (QM below D ([.ref mo, .ref pa, .int (nI v), .int x] : List Value).toArray s [(mo, .inr (15, [.ref e0, .ref c1, .ref c2, .ref c3, .ref c4, .ref c5, .null, .int (nI n), .int (nI z), .int sw, .int sd, .int th])), (e0, aR k 3 6 (fun i9 => if i9 < 6 then some (er i9) else none)), ((er 0), aI k 6 (M 0)), ((er 1), aI k 6 (M 1)), ((er 2), aI k 6 (M 2)), ((er 3), aI k 6 (M 3)), ((er 4), aI k 6 (M 4)), ((er 5), aI k 6 (M 5)), (pa, aI k 6 f)] (is1 none [(mo, .inr (15, [.ref e0, .ref c1, .ref c2, .ref c3, .ref c4, .ref c5, .null, .int (nI n), .int (nI z), .int sw, .int sd, .int th])), (e0, aR k 3 6 (fun i9 => if i9 < 6 then some (er i9) else none)), ((er 0), aI k 6 (M 0)), ((er 1), aI k 6 (M 1)), ((er 2), aI k 6 (M 2)), ((er 3), aI k 6 (M 3)), ((er 4), aI k 6 (M 4)), ((er 5), aI k 6 (M 5)), (pa, aI k 6 (rTp M x v f n))]) 0 0 0) [(mo, .inr (15, [.ref e0, .ref c1, .ref c2, .ref c3, .ref c4, .ref c5, .null, .int (nI n), .int (nI z), .int sw, .int sd, .int th])), (e0, aR k 3 6 (fun i9 => if i9 < 6 then some (er i9) else none)), ((er 0), aI k 6 (M 0)), ((er 1), aI k 6 (M 1)), ((er 2), aI k 6 (M 2)), ((er 3), aI k 6 (M 3)), ((er 4), aI k 6 (M 4)), ((er 5), aI k 6 (M 5)), (pa, aI k 6 (rTp M x v f w))] [(0, .ref mo), (1, .ref pa), (2, .int (nI v)), (3, .int x), (4, .int (nI w))] 0 0 0 16 [] := by
    intro fuel
    induction fuel with
    | zero => intro w hw hm; exact absurd hm (Nat.not_lt_zero _)
    | succ fuel ih =>
      intro w hw hm
      have ih_16 := ih
      refine g_iload (pc := 16) C 4 rfl dX11_topples_16 ?_
      refine g_aload_n (pc := 18) C 0 rfl rfl dX11_topples_18 ?_
      refine g_get (pc := 19) C (T := TX11) inX11 0 rfl rfl 7 (by decide) q_245 rfl rfl dX11_topples_19 ?_
      refine g_icmp_ge (pc := 22) C 49 (by decide) dX11_topples_22 (fun c_22 => ?_) (fun c_22 => ?_)
      · refine G.fn (rTp M x v f n) 8 [(mo, .inr (15, [.ref e0, .ref c1, .ref c2, .ref c3, .ref c4, .ref c5, .null, .int (nI n), .int (nI z), .int sw, .int sd, .int th])), (e0, aR k 3 6 (fun i9 => if i9 < 6 then some (er i9) else none)), ((er 0), aI k 6 (M 0)), ((er 1), aI k 6 (M 1)), ((er 2), aI k 6 (M 2)), ((er 3), aI k 6 (M 3)), ((er 4), aI k 6 (M 4)), ((er 5), aI k 6 (M 5)), (pa, aI k 6 (rTp M x v f n))] rfl (fun j hj => by { have h3 : w = n := (by { rcases Nat.lt_or_ge w n with q | q; exact absurd c_22 (nI_ge q (by omega)); omega }); rw [h3] }) rfl ?_
        exact g_vret (pc := 49) C hr hlk (by first | decide | omega) (by first | decide | omega) (by first | decide | omega) dX11_topples_49 ⟨rfl, rfl⟩
      · have hl22 : w < n := by rcases Nat.lt_or_ge w n with q | q; exact q; exact absurd (nI_le q (by omega)) c_22
        refine g_aload_n (pc := 25) C 1 rfl rfl dX11_topples_25 ?_
        refine g_iload (pc := 26) C 4 rfl dX11_topples_26 ?_
        refine g_dup2 (pc := 28) C rfl rfl dX11_topples_28 ?_
        refine g_iald_n (pc := 29) C (j := w) 8 rfl (by omega) (by first | decide | omega) rfl dX11_topples_29 ?_
        refine g_iload_n (pc := 30) C 3 rfl rfl dX11_topples_30 ?_
        refine g_aload_n (pc := 31) C 0 rfl rfl dX11_topples_31 ?_
        refine g_get (pc := 32) C (T := TX11) inX11 0 rfl rfl 0 (by decide) q_256 rfl rfl dX11_topples_32 ?_
        refine g_iload_n (pc := 35) C 2 rfl rfl dX11_topples_35 ?_
        refine g_aald (pc := 36) C (j := v) (b := er v) 1 rfl (by omega) (by decide) rfl (if_pos (by omega)) dX11_topples_36 ?_
        refine g_iload (pc := 37) C 4 rfl dX11_topples_37 ?_
        refine g_iald_n (pc := 39) (a := (er v)) (n := 6) (f := (M v)) C (j := w) (2 + v) (by rcases (show v = 0 ∨ v = 1 ∨ v = 2 ∨ v = 3 ∨ v = 4 ∨ v = 5 by omega) with h9 | h9 | h9 | h9 | h9 | h9 <;> rw [h9] <;> rfl) (by omega) (by first | decide | omega) rfl dX11_topples_39 ?_
        refine g_imul (pc := 40) C dX11_topples_40 ?_
        refine g_iadd (pc := 41) C dX11_topples_41 ?_
        refine g_iast_n (pc := 42) C (j := w) 8 [(mo, .inr (15, [.ref e0, .ref c1, .ref c2, .ref c3, .ref c4, .ref c5, .null, .int (nI n), .int (nI z), .int sw, .int sd, .int th])), (e0, aR k 3 6 (fun i9 => if i9 < 6 then some (er i9) else none)), ((er 0), aI k 6 (M 0)), ((er 1), aI k 6 (M 1)), ((er 2), aI k 6 (M 2)), ((er 3), aI k 6 (M 3)), ((er 4), aI k 6 (M 4)), ((er 5), aI k 6 (M 5)), (pa, aI k 6 (upd (rTp M x v f w) w (((rTp M x v f w) w) + (x * ((M v) w)))))] rfl (by omega) (by first | decide | omega) rfl rfl dX11_topples_42 ?_
        refine g_iinc (pc := 43) (n := 1) (v := (nI (w + 1))) C 4 [(4, .int (nI (w + 1))), (0, .ref mo), (1, .ref pa), (2, .int (nI v)), (3, .int x)] rfl (nI_1 w) dX11_topples_43 (by decide) rfl ?_
        refine g_goto (pc := 46) C 16 (by decide) dX11_topples_46 ?_
        refine G.loc [1, 2, 3, 4, 0] (lv' := [(0, .ref mo), (1, .ref pa), (2, .int (nI v)), (3, .int x), (4, .int (nI (w + 1)))]) rfl ?_
        refine G.fn (rTp M x v f (w + 1)) 8 [(mo, .inr (15, [.ref e0, .ref c1, .ref c2, .ref c3, .ref c4, .ref c5, .null, .int (nI n), .int (nI z), .int sw, .int sd, .int th])), (e0, aR k 3 6 (fun i9 => if i9 < 6 then some (er i9) else none)), ((er 0), aI k 6 (M 0)), ((er 1), aI k 6 (M 1)), ((er 2), aI k 6 (M 2)), ((er 3), aI k 6 (M 3)), ((er 4), aI k 6 (M 4)), ((er 5), aI k 6 (M 5)), (pa, aI k 6 (rTp M x v f (w + 1)))] rfl (fun j hj => by rfl) rfl ?_
        exact ih_16 (w + 1) (by omega) (by omega)
  refine G.loc [1, 2, 3, 4, 0] (lv' := [(0, .ref mo), (1, .ref pa), (2, .int (nI v)), (3, .int x), (4, .int 0)]) rfl ?_
  refine G.fn (rTp M x v f 0) 8 [(mo, .inr (15, [.ref e0, .ref c1, .ref c2, .ref c3, .ref c4, .ref c5, .null, .int (nI n), .int (nI z), .int sw, .int sd, .int th])), (e0, aR k 3 6 (fun i9 => if i9 < 6 then some (er i9) else none)), ((er 0), aI k 6 (M 0)), ((er 1), aI k 6 (M 1)), ((er 2), aI k 6 (M 2)), ((er 3), aI k 6 (M 3)), ((er 4), aI k 6 (M 4)), ((er 5), aI k 6 (M 5)), (pa, aI k 6 (rTp M x v f 0))] rfl (fun j hj => by rfl) rfl ?_
  refine G.eql (lv' := [(0, .ref mo), (1, .ref pa), (2, .int (nI v)), (3, .int x), (4, .int (nI 0))]) (congrArg (β := List (Nat × Value)) (fun z9 => [(0, .ref mo), (1, .ref pa), (2, .int (nI v)), (3, .int x), (4, .int z9)]) (show (0 : Int32) = (nI 0) from by exact nI_0.symm)) ?_
  exact key_16 (n - 0 + 1) 0 (by omega) (Nat.lt_succ_self _)
end
section
theorem dX11_init_0 : decode cX11_init 0 = .ok (.aload_n 0, 1) := by decide +kernel
theorem dX11_init_1 : decode cX11_init 1 = .ok (.invokespecial 1, 3) := by decide +kernel
theorem q_262 : (Jvm.Cond.methodLink "ChipfoldModel" (1 : Nat) ({ cls := "java/lang/Object", name := "<init>", desc := "()V" } : Jvm.MethodName)) ∈ WG := wg_5 (List.mem_of_getElem? (i := 158) (by decide +kernel)) (by decide +kernel)
theorem dX11_init_4 : decode cX11_init 4 = .ok (.aload_n 0, 1) := by decide +kernel
theorem dX11_init_5 : decode cX11_init 5 = .ok (.bipush 6, 2) := by decide +kernel
theorem dX11_init_7 : decode cX11_init 7 = .ok (.bipush 6, 2) := by decide +kernel
theorem dX11_init_9 : decode cX11_init 9 = .ok (.multianewarray 7 2, 4) := by decide +kernel
theorem q_263 : (Jvm.Cond.classLink "ChipfoldModel" (7 : Nat) "[[I") ∈ WG := wg_5 (List.mem_of_getElem? (i := 159) (by decide +kernel)) (by decide +kernel)
theorem dX11_init_13 : decode cX11_init 13 = .ok (.putfield 9, 3) := by decide +kernel
theorem dX11_init_16 : decode cX11_init 16 = .ok (.aload_n 0, 1) := by decide +kernel
theorem dX11_init_17 : decode cX11_init 17 = .ok (.bipush 6, 2) := by decide +kernel
theorem dX11_init_19 : decode cX11_init 19 = .ok (.newarray .int, 2) := by decide +kernel
theorem dX11_init_21 : decode cX11_init 21 = .ok (.putfield 14, 3) := by decide +kernel
theorem dX11_init_24 : decode cX11_init 24 = .ok (.aload_n 0, 1) := by decide +kernel
theorem dX11_init_25 : decode cX11_init 25 = .ok (.bipush 6, 2) := by decide +kernel
theorem dX11_init_27 : decode cX11_init 27 = .ok (.newarray .int, 2) := by decide +kernel
theorem dX11_init_29 : decode cX11_init 29 = .ok (.putfield 18, 3) := by decide +kernel
theorem dX11_init_32 : decode cX11_init 32 = .ok (.aload_n 0, 1) := by decide +kernel
theorem dX11_init_33 : decode cX11_init 33 = .ok (.bipush 6, 2) := by decide +kernel
theorem dX11_init_35 : decode cX11_init 35 = .ok (.newarray .int, 2) := by decide +kernel
theorem dX11_init_37 : decode cX11_init 37 = .ok (.putfield 21, 3) := by decide +kernel
theorem dX11_init_40 : decode cX11_init 40 = .ok (.aload_n 0, 1) := by decide +kernel
theorem dX11_init_41 : decode cX11_init 41 = .ok (.bipush 6, 2) := by decide +kernel
theorem dX11_init_43 : decode cX11_init 43 = .ok (.newarray .int, 2) := by decide +kernel
theorem dX11_init_45 : decode cX11_init 45 = .ok (.putfield 24, 3) := by decide +kernel
theorem dX11_init_48 : decode cX11_init 48 = .ok (.aload_n 0, 1) := by decide +kernel
theorem dX11_init_49 : decode cX11_init 49 = .ok (.bipush 6, 2) := by decide +kernel
theorem dX11_init_51 : decode cX11_init 51 = .ok (.newarray .int, 2) := by decide +kernel
theorem dX11_init_53 : decode cX11_init 53 = .ok (.putfield 27, 3) := by decide +kernel
theorem dX11_init_56 : decode cX11_init 56 = .ok (.aload_n 0, 1) := by decide +kernel
theorem dX11_init_57 : decode cX11_init 57 = .ok (.aconst_null, 1) := by decide +kernel
theorem dX11_init_58 : decode cX11_init 58 = .ok (.putfield 30, 3) := by decide +kernel
theorem q_264 : (Jvm.Cond.fieldLink "ChipfoldModel" (30 : Nat) "ChipfoldModel" "cells" "[I") ∈ WG := wg_5 (List.mem_of_getElem? (i := 167) (by decide +kernel)) (by decide +kernel)
theorem dX11_init_61 : decode cX11_init 61 = .ok (.aload_n 0, 1) := by decide +kernel
theorem dX11_init_62 : decode cX11_init 62 = .ok (.iconst 0, 1) := by decide +kernel
theorem dX11_init_63 : decode cX11_init 63 = .ok (.putfield 33, 3) := by decide +kernel
theorem dX11_init_66 : decode cX11_init 66 = .ok (.aload_n 0, 1) := by decide +kernel
theorem dX11_init_67 : decode cX11_init 67 = .ok (.iconst 0, 1) := by decide +kernel
theorem dX11_init_68 : decode cX11_init 68 = .ok (.putfield 37, 3) := by decide +kernel
theorem dX11_init_71 : decode cX11_init 71 = .ok (.aload_n 0, 1) := by decide +kernel
theorem dX11_init_72 : decode cX11_init 72 = .ok (.iconst 0, 1) := by decide +kernel
theorem dX11_init_73 : decode cX11_init 73 = .ok (.putfield 40, 3) := by decide +kernel
theorem dX11_init_76 : decode cX11_init 76 = .ok (.aload_n 0, 1) := by decide +kernel
theorem dX11_init_77 : decode cX11_init 77 = .ok (.iconst 0, 1) := by decide +kernel
theorem dX11_init_78 : decode cX11_init 78 = .ok (.putfield 43, 3) := by decide +kernel
theorem q_265 : (Jvm.Cond.fieldLink "ChipfoldModel" (43 : Nat) "ChipfoldModel" "side" "I") ∈ WG := wg_5 (List.mem_of_getElem? (i := 171) (by decide +kernel)) (by decide +kernel)
theorem dX11_init_81 : decode cX11_init 81 = .ok (.aload_n 0, 1) := by decide +kernel
theorem dX11_init_82 : decode cX11_init 82 = .ok (.iconst 0, 1) := by decide +kernel
theorem dX11_init_83 : decode cX11_init 83 = .ok (.putfield 46, 3) := by decide +kernel
theorem dX11_init_86 : decode cX11_init 86 = .ok (.return_, 1) := by decide +kernel
theorem dX11_vertex_0 : decode cX11_vertex 0 = .ok (.aload_n 0, 1) := by decide +kernel
theorem dX11_vertex_1 : decode cX11_vertex 1 = .ok (.aload_n 0, 1) := by decide +kernel
theorem dX11_vertex_2 : decode cX11_vertex 2 = .ok (.getfield 33, 3) := by decide +kernel
theorem dX11_vertex_5 : decode cX11_vertex 5 = .ok (.bipush 6, 2) := by decide +kernel
theorem dX11_vertex_7 : decode cX11_vertex 7 = .ok (.if_icmp .ne 7, 3) := by decide +kernel
theorem dX11_vertex_14 : decode cX11_vertex 14 = .ok (.iconst 0, 1) := by decide +kernel
theorem dX11_vertex_15 : decode cX11_vertex 15 = .ok (.putfield 46, 3) := by decide +kernel
theorem dX11_vertex_18 : decode cX11_vertex 18 = .ok (.aload_n 0, 1) := by decide +kernel
theorem dX11_vertex_19 : decode cX11_vertex 19 = .ok (.getfield 46, 3) := by decide +kernel
theorem dX11_vertex_22 : decode cX11_vertex 22 = .ok (.ifCond .le 5, 3) := by decide +kernel
theorem dX11_vertex_27 : decode cX11_vertex 27 = .ok (.aload_n 0, 1) := by decide +kernel
theorem dX11_vertex_28 : decode cX11_vertex 28 = .ok (.dup, 1) := by decide +kernel
theorem dX11_vertex_29 : decode cX11_vertex 29 = .ok (.getfield 33, 3) := by decide +kernel
theorem dX11_vertex_32 : decode cX11_vertex 32 = .ok (.iconst 1, 1) := by decide +kernel
theorem dX11_vertex_33 : decode cX11_vertex 33 = .ok (.iadd, 1) := by decide +kernel
theorem dX11_vertex_34 : decode cX11_vertex 34 = .ok (.putfield 33, 3) := by decide +kernel
theorem dX11_vertex_37 : decode cX11_vertex 37 = .ok (.aload_n 0, 1) := by decide +kernel
theorem dX11_vertex_38 : decode cX11_vertex 38 = .ok (.invokevirtual 57, 3) := by decide +kernel
theorem q_266 : (Jvm.Cond.code ({ cls := "ChipfoldModel", name := "begin", desc := "()V" } : Jvm.MethodName) prog_13_method_7_code (1 : Nat) (Option.none : Option Jvm.ClassFile.FieldType)) ∈ WG := wg_5 (List.mem_of_getElem? (i := 209) rfl) rfl
theorem q_267 : (Jvm.Cond.selects "ChipfoldModel" ({ cls := "ChipfoldModel", name := "begin", desc := "()V" } : Jvm.MethodName) ({ cls := "ChipfoldModel", name := "begin", desc := "()V" } : Jvm.MethodName)) ∈ WG := wg_0 (by decide +kernel) (by decide +kernel)
theorem q_268 : (Jvm.Cond.methodLink "ChipfoldModel" (57 : Nat) ({ cls := "ChipfoldModel", name := "begin", desc := "()V" } : Jvm.MethodName)) ∈ WG := wg_5 (List.mem_of_getElem? (i := 206) (by decide +kernel)) (by decide +kernel)
theorem q_269 : (Jvm.Cond.instanceMethod ({ cls := "ChipfoldModel", name := "begin", desc := "()V" } : Jvm.MethodName)) ∈ WG := wg_5 (List.mem_of_getElem? (i := 208) (by decide +kernel)) (by decide +kernel)
theorem dX11_vertex_41 : decode cX11_vertex 41 = .ok (.aload_n 0, 1) := by decide +kernel
theorem dX11_vertex_42 : decode cX11_vertex 42 = .ok (.getfield 33, 3) := by decide +kernel
theorem dX11_vertex_45 : decode cX11_vertex 45 = .ok (.iconst 1, 1) := by decide +kernel
theorem dX11_vertex_46 : decode cX11_vertex 46 = .ok (.isub, 1) := by decide +kernel
theorem dX11_vertex_47 : decode cX11_vertex 47 = .ok (.ireturn, 1) := by decide +kernel
theorem dX11_edges_0 : decode cX11_edges 0 = .ok (.aload_n 0, 1) := by decide +kernel
theorem dX11_edges_1 : decode cX11_edges 1 = .ok (.aload_n 0, 1) := by decide +kernel
theorem dX11_edges_2 : decode cX11_edges 2 = .ok (.iload_n 1, 1) := by decide +kernel
theorem dX11_edges_3 : decode cX11_edges 3 = .ok (.invokevirtual 53, 3) := by decide +kernel
theorem q_270 : (Jvm.Cond.code ({ cls := "ChipfoldModel", name := "isVertex", desc := "(I)Z" } : Jvm.MethodName) prog_13_method_4_code (2 : Nat) (Option.some Jvm.ClassFile.FieldType.boolean)) ∈ WG := wg_5 (List.mem_of_getElem? (i := 217) rfl) rfl
theorem q_271 : (Jvm.Cond.selects "ChipfoldModel" ({ cls := "ChipfoldModel", name := "isVertex", desc := "(I)Z" } : Jvm.MethodName) ({ cls := "ChipfoldModel", name := "isVertex", desc := "(I)Z" } : Jvm.MethodName)) ∈ WG := wg_0 (by decide +kernel) (by decide +kernel)
theorem q_272 : (Jvm.Cond.methodLink "ChipfoldModel" (53 : Nat) ({ cls := "ChipfoldModel", name := "isVertex", desc := "(I)Z" } : Jvm.MethodName)) ∈ WG := wg_5 (List.mem_of_getElem? (i := 214) (by decide +kernel)) (by decide +kernel)
theorem q_273 : (Jvm.Cond.instanceMethod ({ cls := "ChipfoldModel", name := "isVertex", desc := "(I)Z" } : Jvm.MethodName)) ∈ WG := wg_5 (List.mem_of_getElem? (i := 216) (by decide +kernel)) (by decide +kernel)
theorem dX11_edges_6 : decode cX11_edges 6 = .ok (.ifCond .eq 11, 3) := by decide +kernel
theorem dX11_edges_9 : decode cX11_edges 9 = .ok (.aload_n 0, 1) := by decide +kernel
theorem dX11_edges_10 : decode cX11_edges 10 = .ok (.iload_n 2, 1) := by decide +kernel
theorem dX11_edges_11 : decode cX11_edges 11 = .ok (.invokevirtual 53, 3) := by decide +kernel
theorem dX11_edges_14 : decode cX11_edges 14 = .ok (.ifCond .ne 7, 3) := by decide +kernel
theorem dX11_edges_21 : decode cX11_edges 21 = .ok (.iload_n 1, 1) := by decide +kernel
theorem dX11_edges_22 : decode cX11_edges 22 = .ok (.iload_n 2, 1) := by decide +kernel
theorem dX11_edges_23 : decode cX11_edges 23 = .ok (.if_icmp .eq 12, 3) := by decide +kernel
theorem dX11_edges_26 : decode cX11_edges 26 = .ok (.iload_n 3, 1) := by decide +kernel
theorem dX11_edges_27 : decode cX11_edges 27 = .ok (.iconst 0, 1) := by decide +kernel
theorem dX11_edges_28 : decode cX11_edges 28 = .ok (.iconst 3, 1) := by decide +kernel
theorem dX11_edges_29 : decode cX11_edges 29 = .ok (.invokestatic 49, 3) := by decide +kernel
theorem dX11_edges_32 : decode cX11_edges 32 = .ok (.ifCond .ne 7, 3) := by decide +kernel
theorem dX11_edges_39 : decode cX11_edges 39 = .ok (.iconst 0, 1) := by decide +kernel
theorem dX11_edges_40 : decode cX11_edges 40 = .ok (.putfield 46, 3) := by decide +kernel
theorem dX11_edges_43 : decode cX11_edges 43 = .ok (.aload_n 0, 1) := by decide +kernel
theorem dX11_edges_44 : decode cX11_edges 44 = .ok (.getfield 46, 3) := by decide +kernel
theorem dX11_edges_47 : decode cX11_edges 47 = .ok (.ifCond .le 5, 3) := by decide +kernel
theorem dX11_edges_52 : decode cX11_edges 52 = .ok (.aload_n 0, 1) := by decide +kernel
theorem dX11_edges_53 : decode cX11_edges 53 = .ok (.getfield 9, 3) := by decide +kernel
theorem dX11_edges_56 : decode cX11_edges 56 = .ok (.iload_n 1, 1) := by decide +kernel
theorem dX11_edges_57 : decode cX11_edges 57 = .ok (.aaload, 1) := by decide +kernel
theorem dX11_edges_58 : decode cX11_edges 58 = .ok (.iload_n 2, 1) := by decide +kernel
theorem dX11_edges_59 : decode cX11_edges 59 = .ok (.iaload, 1) := by decide +kernel
theorem dX11_edges_60 : decode cX11_edges 60 = .ok (.istore 4, 2) := by decide +kernel
theorem dX11_edges_62 : decode cX11_edges 62 = .ok (.iload 4, 2) := by decide +kernel
theorem dX11_edges_64 : decode cX11_edges 64 = .ok (.iload_n 3, 1) := by decide +kernel
theorem dX11_edges_65 : decode cX11_edges 65 = .ok (.if_icmp .ne 6, 3) := by decide +kernel
theorem dX11_edges_71 : decode cX11_edges 71 = .ok (.aload_n 0, 1) := by decide +kernel
theorem dX11_edges_72 : decode cX11_edges 72 = .ok (.getfield 9, 3) := by decide +kernel
theorem dX11_edges_75 : decode cX11_edges 75 = .ok (.iload_n 1, 1) := by decide +kernel
theorem dX11_edges_76 : decode cX11_edges 76 = .ok (.aaload, 1) := by decide +kernel
theorem dX11_edges_77 : decode cX11_edges 77 = .ok (.iload_n 2, 1) := by decide +kernel
theorem dX11_edges_78 : decode cX11_edges 78 = .ok (.iload_n 3, 1) := by decide +kernel
theorem dX11_edges_79 : decode cX11_edges 79 = .ok (.iastore, 1) := by decide +kernel
theorem dX11_edges_80 : decode cX11_edges 80 = .ok (.aload_n 0, 1) := by decide +kernel
theorem dX11_edges_81 : decode cX11_edges 81 = .ok (.getfield 9, 3) := by decide +kernel
theorem dX11_edges_84 : decode cX11_edges 84 = .ok (.iload_n 2, 1) := by decide +kernel
theorem dX11_edges_85 : decode cX11_edges 85 = .ok (.aaload, 1) := by decide +kernel
theorem dX11_edges_86 : decode cX11_edges 86 = .ok (.iload_n 1, 1) := by decide +kernel
theorem dX11_edges_87 : decode cX11_edges 87 = .ok (.iload_n 3, 1) := by decide +kernel
theorem dX11_edges_88 : decode cX11_edges 88 = .ok (.iastore, 1) := by decide +kernel
theorem dX11_edges_89 : decode cX11_edges 89 = .ok (.aload_n 0, 1) := by decide +kernel
theorem dX11_edges_90 : decode cX11_edges 90 = .ok (.invokevirtual 57, 3) := by decide +kernel
theorem dX11_edges_93 : decode cX11_edges 93 = .ok (.iload 4, 2) := by decide +kernel
theorem dX11_edges_95 : decode cX11_edges 95 = .ok (.ireturn, 1) := by decide +kernel
theorem dX11_put_0 : decode cX11_put 0 = .ok (.aload_n 0, 1) := by decide +kernel
theorem dX11_put_1 : decode cX11_put 1 = .ok (.aload_n 0, 1) := by decide +kernel
theorem dX11_put_2 : decode cX11_put 2 = .ok (.iload_n 1, 1) := by decide +kernel
theorem dX11_put_3 : decode cX11_put 3 = .ok (.invokevirtual 53, 3) := by decide +kernel
theorem dX11_put_6 : decode cX11_put 6 = .ok (.ifCond .ne 7, 3) := by decide +kernel
theorem dX11_put_13 : decode cX11_put 13 = .ok (.iload_n 2, 1) := by decide +kernel
theorem dX11_put_14 : decode cX11_put 14 = .ok (.iconst 1, 1) := by decide +kernel
theorem dX11_put_15 : decode cX11_put 15 = .ok (.sipush 200, 3) := by decide +kernel
theorem dX11_put_18 : decode cX11_put 18 = .ok (.invokestatic 49, 3) := by decide +kernel
theorem dX11_put_21 : decode cX11_put 21 = .ok (.ifCond .ne 7, 3) := by decide +kernel
theorem dX11_put_28 : decode cX11_put 28 = .ok (.iload_n 1, 1) := by decide +kernel
theorem dX11_put_29 : decode cX11_put 29 = .ok (.aload_n 0, 1) := by decide +kernel
theorem dX11_put_30 : decode cX11_put 30 = .ok (.getfield 37, 3) := by decide +kernel
theorem dX11_put_33 : decode cX11_put 33 = .ok (.if_icmp .eq 21, 3) := by decide +kernel
theorem dX11_put_36 : decode cX11_put 36 = .ok (.aload_n 0, 1) := by decide +kernel
theorem dX11_put_37 : decode cX11_put 37 = .ok (.getfield 14, 3) := by decide +kernel
theorem dX11_put_40 : decode cX11_put 40 = .ok (.iload_n 1, 1) := by decide +kernel
theorem dX11_put_41 : decode cX11_put 41 = .ok (.iaload, 1) := by decide +kernel
theorem dX11_put_42 : decode cX11_put 42 = .ok (.iload_n 2, 1) := by decide +kernel
theorem dX11_put_43 : decode cX11_put 43 = .ok (.iadd, 1) := by decide +kernel
theorem dX11_put_44 : decode cX11_put 44 = .ok (.sipush 2000, 3) := by decide +kernel
theorem dX11_put_47 : decode cX11_put 47 = .ok (.if_icmp .le 7, 3) := by decide +kernel
theorem dX11_put_54 : decode cX11_put 54 = .ok (.iconst 0, 1) := by decide +kernel
theorem dX11_put_55 : decode cX11_put 55 = .ok (.putfield 46, 3) := by decide +kernel
theorem dX11_put_58 : decode cX11_put 58 = .ok (.aload_n 0, 1) := by decide +kernel
theorem dX11_put_59 : decode cX11_put 59 = .ok (.getfield 46, 3) := by decide +kernel
theorem dX11_put_62 : decode cX11_put 62 = .ok (.ifCond .le 5, 3) := by decide +kernel
theorem dX11_put_67 : decode cX11_put 67 = .ok (.iload_n 1, 1) := by decide +kernel
theorem dX11_put_68 : decode cX11_put 68 = .ok (.aload_n 0, 1) := by decide +kernel
theorem dX11_put_69 : decode cX11_put 69 = .ok (.getfield 37, 3) := by decide +kernel
theorem dX11_put_72 : decode cX11_put 72 = .ok (.if_icmp .ne 15, 3) := by decide +kernel
theorem dX11_put_87 : decode cX11_put 87 = .ok (.aload_n 0, 1) := by decide +kernel
theorem dX11_put_88 : decode cX11_put 88 = .ok (.getfield 14, 3) := by decide +kernel
theorem dX11_put_91 : decode cX11_put 91 = .ok (.iload_n 1, 1) := by decide +kernel
theorem dX11_put_92 : decode cX11_put 92 = .ok (.dup2, 1) := by decide +kernel
theorem dX11_put_93 : decode cX11_put 93 = .ok (.iaload, 1) := by decide +kernel
theorem dX11_put_94 : decode cX11_put 94 = .ok (.iload_n 2, 1) := by decide +kernel
theorem dX11_put_95 : decode cX11_put 95 = .ok (.iadd, 1) := by decide +kernel
theorem dX11_put_96 : decode cX11_put 96 = .ok (.iastore, 1) := by decide +kernel
theorem dX11_put_97 : decode cX11_put 97 = .ok (.aload_n 0, 1) := by decide +kernel
theorem dX11_put_98 : decode cX11_put 98 = .ok (.getfield 14, 3) := by decide +kernel
theorem dX11_put_101 : decode cX11_put 101 = .ok (.iload_n 1, 1) := by decide +kernel
theorem dX11_put_102 : decode cX11_put 102 = .ok (.iaload, 1) := by decide +kernel
theorem dX11_put_103 : decode cX11_put 103 = .ok (.ireturn, 1) := by decide +kernel
theorem dX11_reach_0 : decode cX11_reach 0 = .ok (.aload_n 2, 1) := by decide +kernel
theorem dX11_reach_1 : decode cX11_reach 1 = .ok (.iload_n 1, 1) := by decide +kernel
theorem dX11_reach_2 : decode cX11_reach 2 = .ok (.iconst 1, 1) := by decide +kernel
theorem dX11_reach_3 : decode cX11_reach 3 = .ok (.bastore, 1) := by decide +kernel
theorem dX11_reach_4 : decode cX11_reach 4 = .ok (.iconst 0, 1) := by decide +kernel
theorem dX11_reach_5 : decode cX11_reach 5 = .ok (.istore_n 3, 1) := by decide +kernel
theorem dX11_reach_6 : decode cX11_reach 6 = .ok (.iload_n 3, 1) := by decide +kernel
theorem dX11_reach_7 : decode cX11_reach 7 = .ok (.aload_n 0, 1) := by decide +kernel
theorem dX11_reach_8 : decode cX11_reach 8 = .ok (.getfield 33, 3) := by decide +kernel
theorem dX11_reach_11 : decode cX11_reach 11 = .ok (.if_icmp .ge 32, 3) := by decide +kernel
theorem dX11_reach_43 : decode cX11_reach 43 = .ok (.return_, 1) := by decide +kernel
theorem dX11_reach_14 : decode cX11_reach 14 = .ok (.aload_n 0, 1) := by decide +kernel
theorem dX11_reach_15 : decode cX11_reach 15 = .ok (.getfield 9, 3) := by decide +kernel
theorem dX11_reach_18 : decode cX11_reach 18 = .ok (.iload_n 1, 1) := by decide +kernel
theorem dX11_reach_19 : decode cX11_reach 19 = .ok (.aaload, 1) := by decide +kernel
theorem dX11_reach_20 : decode cX11_reach 20 = .ok (.iload_n 3, 1) := by decide +kernel
theorem dX11_reach_21 : decode cX11_reach 21 = .ok (.iaload, 1) := by decide +kernel
theorem dX11_reach_22 : decode cX11_reach 22 = .ok (.ifCond .le 15, 3) := by decide +kernel
theorem dX11_reach_37 : decode cX11_reach 37 = .ok (.iinc 3 1, 3) := by decide +kernel
theorem dX11_reach_40 : decode cX11_reach 40 = .ok (.goto (-34), 3) := by decide +kernel
theorem dX11_reach_25 : decode cX11_reach 25 = .ok (.aload_n 2, 1) := by decide +kernel
theorem dX11_reach_26 : decode cX11_reach 26 = .ok (.iload_n 3, 1) := by decide +kernel
theorem dX11_reach_27 : decode cX11_reach 27 = .ok (.baload, 1) := by decide +kernel
theorem dX11_reach_28 : decode cX11_reach 28 = .ok (.ifCond .ne 9, 3) := by decide +kernel
theorem dX11_reach_31 : decode cX11_reach 31 = .ok (.aload_n 0, 1) := by decide +kernel
theorem dX11_reach_32 : decode cX11_reach 32 = .ok (.iload_n 3, 1) := by decide +kernel
theorem dX11_reach_33 : decode cX11_reach 33 = .ok (.aload_n 2, 1) := by decide +kernel
theorem dX11_reach_34 : decode cX11_reach 34 = .ok (.invokevirtual 67, 3) := by decide +kernel
theorem q_274 : (Jvm.Cond.code ({ cls := "ChipfoldModel", name := "reach", desc := "(I[Z)V" } : Jvm.MethodName) prog_13_method_13_code (4 : Nat) (Option.none : Option Jvm.ClassFile.FieldType)) ∈ WG := wg_6 (List.mem_of_getElem? (i := 8) rfl) rfl
theorem q_275 : (Jvm.Cond.selects "ChipfoldModel" ({ cls := "ChipfoldModel", name := "reach", desc := "(I[Z)V" } : Jvm.MethodName) ({ cls := "ChipfoldModel", name := "reach", desc := "(I[Z)V" } : Jvm.MethodName)) ∈ WG := wg_0 (by decide +kernel) (by decide +kernel)
theorem q_276 : (Jvm.Cond.methodLink "ChipfoldModel" (67 : Nat) ({ cls := "ChipfoldModel", name := "reach", desc := "(I[Z)V" } : Jvm.MethodName)) ∈ WG := wg_6 (List.mem_of_getElem? (i := 5) (by decide +kernel)) (by decide +kernel)
theorem q_277 : (Jvm.Cond.instanceMethod ({ cls := "ChipfoldModel", name := "reach", desc := "(I[Z)V" } : Jvm.MethodName)) ∈ WG := wg_6 (List.mem_of_getElem? (i := 7) (by decide +kernel)) (by decide +kernel)
theorem dX11_whole_0 : decode cX11_whole 0 = .ok (.aload_n 0, 1) := by decide +kernel
theorem dX11_whole_1 : decode cX11_whole 1 = .ok (.getfield 33, 3) := by decide +kernel
theorem dX11_whole_4 : decode cX11_whole 4 = .ok (.iconst 2, 1) := by decide +kernel
theorem dX11_whole_5 : decode cX11_whole 5 = .ok (.if_icmp .ge 5, 3) := by decide +kernel
theorem dX11_whole_10 : decode cX11_whole 10 = .ok (.bipush 6, 2) := by decide +kernel
theorem dX11_whole_12 : decode cX11_whole 12 = .ok (.newarray .boolean, 2) := by decide +kernel
theorem q_278 : (Jvm.Cond.arrayClass Jvm.ClassFile.FieldType.boolean) ∈ WG := wg_6 (List.mem_of_getElem? (i := 9) (by decide +kernel)) (by decide +kernel)
theorem dX11_whole_14 : decode cX11_whole 14 = .ok (.astore_n 1, 1) := by decide +kernel
theorem dX11_whole_15 : decode cX11_whole 15 = .ok (.aload_n 0, 1) := by decide +kernel
theorem dX11_whole_16 : decode cX11_whole 16 = .ok (.iconst 0, 1) := by decide +kernel
theorem dX11_whole_17 : decode cX11_whole 17 = .ok (.aload_n 1, 1) := by decide +kernel
theorem dX11_whole_18 : decode cX11_whole 18 = .ok (.invokevirtual 67, 3) := by decide +kernel
theorem dX11_whole_21 : decode cX11_whole 21 = .ok (.iconst 0, 1) := by decide +kernel
theorem dX11_whole_22 : decode cX11_whole 22 = .ok (.istore_n 2, 1) := by decide +kernel
theorem dX11_whole_23 : decode cX11_whole 23 = .ok (.iload_n 2, 1) := by decide +kernel
theorem dX11_whole_24 : decode cX11_whole 24 = .ok (.aload_n 0, 1) := by decide +kernel
theorem dX11_whole_25 : decode cX11_whole 25 = .ok (.getfield 33, 3) := by decide +kernel
theorem dX11_whole_28 : decode cX11_whole 28 = .ok (.if_icmp .ge 17, 3) := by decide +kernel
theorem dX11_whole_45 : decode cX11_whole 45 = .ok (.iconst 1, 1) := by decide +kernel
theorem dX11_whole_46 : decode cX11_whole 46 = .ok (.ireturn, 1) := by decide +kernel
theorem dX11_whole_31 : decode cX11_whole 31 = .ok (.aload_n 1, 1) := by decide +kernel
theorem dX11_whole_32 : decode cX11_whole 32 = .ok (.iload_n 2, 1) := by decide +kernel
theorem dX11_whole_33 : decode cX11_whole 33 = .ok (.baload, 1) := by decide +kernel
theorem dX11_whole_34 : decode cX11_whole 34 = .ok (.ifCond .ne 5, 3) := by decide +kernel
theorem dX11_whole_39 : decode cX11_whole 39 = .ok (.iinc 2 1, 3) := by decide +kernel
theorem dX11_whole_42 : decode cX11_whole 42 = .ok (.goto (-19), 3) := by decide +kernel
theorem dX11_wrongWhole_0 : decode cX11_wrongWhole 0 = .ok (.aload_n 0, 1) := by decide +kernel
theorem dX11_wrongWhole_1 : decode cX11_wrongWhole 1 = .ok (.aload_n 0, 1) := by decide +kernel
theorem dX11_wrongWhole_2 : decode cX11_wrongWhole 2 = .ok (.invokevirtual 71, 3) := by decide +kernel
theorem q_279 : (Jvm.Cond.code ({ cls := "ChipfoldModel", name := "whole", desc := "()Z" } : Jvm.MethodName) prog_13_method_14_code (3 : Nat) (Option.some Jvm.ClassFile.FieldType.boolean)) ∈ WG := wg_6 (List.mem_of_getElem? (i := 4) rfl) rfl
theorem q_280 : (Jvm.Cond.selects "ChipfoldModel" ({ cls := "ChipfoldModel", name := "whole", desc := "()Z" } : Jvm.MethodName) ({ cls := "ChipfoldModel", name := "whole", desc := "()Z" } : Jvm.MethodName)) ∈ WG := wg_0 (by decide +kernel) (by decide +kernel)
theorem q_281 : (Jvm.Cond.methodLink "ChipfoldModel" (71 : Nat) ({ cls := "ChipfoldModel", name := "whole", desc := "()Z" } : Jvm.MethodName)) ∈ WG := wg_6 (List.mem_of_getElem? (i := 1) (by decide +kernel)) (by decide +kernel)
theorem q_282 : (Jvm.Cond.instanceMethod ({ cls := "ChipfoldModel", name := "whole", desc := "()Z" } : Jvm.MethodName)) ∈ WG := wg_6 (List.mem_of_getElem? (i := 3) (by decide +kernel)) (by decide +kernel)
theorem dX11_wrongWhole_5 : decode cX11_wrongWhole 5 = .ok (.ifCond .eq 7, 3) := by decide +kernel
theorem dX11_wrongWhole_8 : decode cX11_wrongWhole 8 = .ok (.iconst 0, 1) := by decide +kernel
theorem dX11_wrongWhole_9 : decode cX11_wrongWhole 9 = .ok (.goto 4, 3) := by decide +kernel
theorem dX11_wrongWhole_13 : decode cX11_wrongWhole 13 = .ok (.putfield 46, 3) := by decide +kernel
theorem dX11_wrongWhole_16 : decode cX11_wrongWhole 16 = .ok (.aload_n 0, 1) := by decide +kernel
theorem dX11_wrongWhole_17 : decode cX11_wrongWhole 17 = .ok (.getfield 46, 3) := by decide +kernel
theorem dX11_wrongWhole_20 : decode cX11_wrongWhole 20 = .ok (.ireturn, 1) := by decide +kernel
theorem dX11_waves_0 : decode cX11_waves 0 = .ok (.aload_n 0, 1) := by decide +kernel
theorem dX11_waves_1 : decode cX11_waves 1 = .ok (.invokevirtual 86, 3) := by decide +kernel
theorem q_283 : (Jvm.Cond.code ({ cls := "ChipfoldModel", name := "wrongWhole", desc := "()I" } : Jvm.MethodName) prog_13_method_16_code (1 : Nat) (Option.some Jvm.ClassFile.FieldType.int)) ∈ WG := wg_6 (List.mem_of_getElem? (i := 41) rfl) rfl
theorem q_284 : (Jvm.Cond.selects "ChipfoldModel" ({ cls := "ChipfoldModel", name := "wrongWhole", desc := "()I" } : Jvm.MethodName) ({ cls := "ChipfoldModel", name := "wrongWhole", desc := "()I" } : Jvm.MethodName)) ∈ WG := wg_0 (by decide +kernel) (by decide +kernel)
theorem q_285 : (Jvm.Cond.methodLink "ChipfoldModel" (86 : Nat) ({ cls := "ChipfoldModel", name := "wrongWhole", desc := "()I" } : Jvm.MethodName)) ∈ WG := wg_6 (List.mem_of_getElem? (i := 38) (by decide +kernel)) (by decide +kernel)
theorem q_286 : (Jvm.Cond.instanceMethod ({ cls := "ChipfoldModel", name := "wrongWhole", desc := "()I" } : Jvm.MethodName)) ∈ WG := wg_6 (List.mem_of_getElem? (i := 40) (by decide +kernel)) (by decide +kernel)
theorem dX11_waves_4 : decode cX11_waves 4 = .ok (.ifCond .le 5, 3) := by decide +kernel
theorem dX11_waves_9 : decode cX11_waves 9 = .ok (.aload_n 0, 1) := by decide +kernel
theorem dX11_waves_10 : decode cX11_waves 10 = .ok (.getfield 14, 3) := by decide +kernel
theorem dX11_waves_13 : decode cX11_waves 13 = .ok (.invokevirtual 94, 3) := by decide +kernel
theorem q_287 : (Jvm.Cond.methodLink "ChipfoldModel" (94 : Nat) ({ cls := "[I", name := "clone", desc := "()Ljava/lang/Object;" } : Jvm.MethodName)) ∈ WG := wg_6 (List.mem_of_getElem? (i := 50) (by decide +kernel)) (by decide +kernel)
theorem q_288 : (Jvm.Cond.sameMethod "[I" "java/lang/Object" "clone" "()Ljava/lang/Object;") ∈ WG := wg_6 (List.mem_of_getElem? (i := 51) (by decide +kernel)) (by decide +kernel)
theorem q_289 : (Jvm.Cond.native ({ cls := "java/lang/Object", name := "clone", desc := "()Ljava/lang/Object;" } : Jvm.MethodName)) ∈ WG := wg_6 (List.mem_of_getElem? (i := 52) (by decide +kernel)) (by decide +kernel)
theorem q_290 : (Jvm.Cond.instanceMethod ({ cls := "java/lang/Object", name := "clone", desc := "()Ljava/lang/Object;" } : Jvm.MethodName)) ∈ WG := wg_6 (List.mem_of_getElem? (i := 53) (by decide +kernel)) (by decide +kernel)
theorem q_291 : (Jvm.Cond.selects "[I" ({ cls := "[I", name := "clone", desc := "()Ljava/lang/Object;" } : Jvm.MethodName) ({ cls := "java/lang/Object", name := "clone", desc := "()Ljava/lang/Object;" } : Jvm.MethodName)) ∈ WG := wg_6 (List.mem_of_getElem? (i := 54) (by decide +kernel)) (by decide +kernel)
theorem dX11_waves_16 : decode cX11_waves 16 = .ok (.checkcast 95, 3) := by decide +kernel
theorem q_292 : (Jvm.Cond.classLink "ChipfoldModel" (95 : Nat) "[I") ∈ WG := wg_6 (List.mem_of_getElem? (i := 56) (by decide +kernel)) (by decide +kernel)
theorem dX11_waves_19 : decode cX11_waves 19 = .ok (.astore_n 1, 1) := by decide +kernel
theorem dX11_waves_20 : decode cX11_waves 20 = .ok (.iconst 0, 1) := by decide +kernel
theorem dX11_waves_21 : decode cX11_waves 21 = .ok (.istore_n 2, 1) := by decide +kernel
theorem dX11_waves_22 : decode cX11_waves 22 = .ok (.iconst 1, 1) := by decide +kernel
theorem dX11_waves_23 : decode cX11_waves 23 = .ok (.istore_n 3, 1) := by decide +kernel
theorem dX11_waves_24 : decode cX11_waves 24 = .ok (.iload_n 3, 1) := by decide +kernel
theorem dX11_waves_25 : decode cX11_waves 25 = .ok (.ifCond .eq 98, 3) := by decide +kernel
theorem dX11_waves_123 : decode cX11_waves 123 = .ok (.iload_n 2, 1) := by decide +kernel
theorem dX11_waves_124 : decode cX11_waves 124 = .ok (.ireturn, 1) := by decide +kernel
theorem dX11_waves_28 : decode cX11_waves 28 = .ok (.bipush 6, 2) := by decide +kernel
theorem dX11_waves_30 : decode cX11_waves 30 = .ok (.newarray .boolean, 2) := by decide +kernel
theorem dX11_waves_32 : decode cX11_waves 32 = .ok (.astore 4, 2) := by decide +kernel
theorem dX11_waves_34 : decode cX11_waves 34 = .ok (.iconst 0, 1) := by decide +kernel
theorem dX11_waves_35 : decode cX11_waves 35 = .ok (.istore_n 3, 1) := by decide +kernel
theorem dX11_waves_36 : decode cX11_waves 36 = .ok (.iconst 0, 1) := by decide +kernel
theorem dX11_waves_37 : decode cX11_waves 37 = .ok (.istore 5, 2) := by decide +kernel
theorem dX11_waves_39 : decode cX11_waves 39 = .ok (.iload 5, 2) := by decide +kernel
theorem dX11_waves_41 : decode cX11_waves 41 = .ok (.aload_n 0, 1) := by decide +kernel
theorem dX11_waves_42 : decode cX11_waves 42 = .ok (.getfield 33, 3) := by decide +kernel
theorem dX11_waves_45 : decode cX11_waves 45 = .ok (.if_icmp .ge 29, 3) := by decide +kernel
theorem dX11_waves_74 : decode cX11_waves 74 = .ok (.iconst 0, 1) := by decide +kernel
theorem dX11_waves_75 : decode cX11_waves 75 = .ok (.istore 5, 2) := by decide +kernel
theorem dX11_waves_77 : decode cX11_waves 77 = .ok (.iload 5, 2) := by decide +kernel
theorem dX11_waves_79 : decode cX11_waves 79 = .ok (.aload_n 0, 1) := by decide +kernel
theorem dX11_waves_80 : decode cX11_waves 80 = .ok (.getfield 33, 3) := by decide +kernel
theorem dX11_waves_83 : decode cX11_waves 83 = .ok (.if_icmp .ge 25, 3) := by decide +kernel
theorem dX11_waves_108 : decode cX11_waves 108 = .ok (.iload_n 2, 1) := by decide +kernel
theorem dX11_waves_109 : decode cX11_waves 109 = .ok (.iload_n 3, 1) := by decide +kernel
theorem dX11_waves_110 : decode cX11_waves 110 = .ok (.ifCond .eq 7, 3) := by decide +kernel
theorem dX11_waves_117 : decode cX11_waves 117 = .ok (.iconst 0, 1) := by decide +kernel
theorem dX11_waves_118 : decode cX11_waves 118 = .ok (.iadd, 1) := by decide +kernel
theorem dX11_waves_119 : decode cX11_waves 119 = .ok (.istore_n 2, 1) := by decide +kernel
theorem dX11_waves_120 : decode cX11_waves 120 = .ok (.goto (-96), 3) := by decide +kernel
theorem dX11_waves_113 : decode cX11_waves 113 = .ok (.iconst 1, 1) := by decide +kernel
theorem dX11_waves_114 : decode cX11_waves 114 = .ok (.goto 4, 3) := by decide +kernel
theorem dX11_waves_86 : decode cX11_waves 86 = .ok (.aload 4, 2) := by decide +kernel
theorem dX11_waves_88 : decode cX11_waves 88 = .ok (.iload 5, 2) := by decide +kernel
theorem dX11_waves_90 : decode cX11_waves 90 = .ok (.baload, 1) := by decide +kernel
theorem dX11_waves_91 : decode cX11_waves 91 = .ok (.ifCond .eq 11, 3) := by decide +kernel
theorem dX11_waves_102 : decode cX11_waves 102 = .ok (.iinc 5 1, 3) := by decide +kernel
theorem dX11_waves_105 : decode cX11_waves 105 = .ok (.goto (-28), 3) := by decide +kernel
theorem dX11_waves_94 : decode cX11_waves 94 = .ok (.aload_n 0, 1) := by decide +kernel
theorem dX11_waves_95 : decode cX11_waves 95 = .ok (.aload_n 1, 1) := by decide +kernel
theorem dX11_waves_96 : decode cX11_waves 96 = .ok (.iload 5, 2) := by decide +kernel
theorem dX11_waves_98 : decode cX11_waves 98 = .ok (.iconst 1, 1) := by decide +kernel
theorem dX11_waves_99 : decode cX11_waves 99 = .ok (.invokevirtual 79, 3) := by decide +kernel
theorem q_293 : (Jvm.Cond.code ({ cls := "ChipfoldModel", name := "topples", desc := "([III)V" } : Jvm.MethodName) prog_13_method_20_code (5 : Nat) (Option.none : Option Jvm.ClassFile.FieldType)) ∈ WG := wg_6 (List.mem_of_getElem? (i := 29) rfl) rfl
theorem q_294 : (Jvm.Cond.selects "ChipfoldModel" ({ cls := "ChipfoldModel", name := "topples", desc := "([III)V" } : Jvm.MethodName) ({ cls := "ChipfoldModel", name := "topples", desc := "([III)V" } : Jvm.MethodName)) ∈ WG := wg_0 (by decide +kernel) (by decide +kernel)
theorem q_295 : (Jvm.Cond.methodLink "ChipfoldModel" (79 : Nat) ({ cls := "ChipfoldModel", name := "topples", desc := "([III)V" } : Jvm.MethodName)) ∈ WG := wg_6 (List.mem_of_getElem? (i := 26) (by decide +kernel)) (by decide +kernel)
theorem q_296 : (Jvm.Cond.instanceMethod ({ cls := "ChipfoldModel", name := "topples", desc := "([III)V" } : Jvm.MethodName)) ∈ WG := wg_6 (List.mem_of_getElem? (i := 28) (by decide +kernel)) (by decide +kernel)
theorem dX11_waves_48 : decode cX11_waves 48 = .ok (.aload 4, 2) := by decide +kernel
theorem dX11_waves_50 : decode cX11_waves 50 = .ok (.iload 5, 2) := by decide +kernel
theorem dX11_waves_52 : decode cX11_waves 52 = .ok (.aload_n 0, 1) := by decide +kernel
theorem dX11_waves_53 : decode cX11_waves 53 = .ok (.aload_n 1, 1) := by decide +kernel
theorem dX11_waves_54 : decode cX11_waves 54 = .ok (.iload 5, 2) := by decide +kernel
theorem dX11_waves_56 : decode cX11_waves 56 = .ok (.invokevirtual 75, 3) := by decide +kernel
theorem q_297 : (Jvm.Cond.code ({ cls := "ChipfoldModel", name := "can", desc := "([II)Z" } : Jvm.MethodName) prog_13_method_19_code (3 : Nat) (Option.some Jvm.ClassFile.FieldType.boolean)) ∈ WG := wg_6 (List.mem_of_getElem? (i := 25) rfl) rfl
theorem q_298 : (Jvm.Cond.selects "ChipfoldModel" ({ cls := "ChipfoldModel", name := "can", desc := "([II)Z" } : Jvm.MethodName) ({ cls := "ChipfoldModel", name := "can", desc := "([II)Z" } : Jvm.MethodName)) ∈ WG := wg_0 (by decide +kernel) (by decide +kernel)
theorem q_299 : (Jvm.Cond.methodLink "ChipfoldModel" (75 : Nat) ({ cls := "ChipfoldModel", name := "can", desc := "([II)Z" } : Jvm.MethodName)) ∈ WG := wg_6 (List.mem_of_getElem? (i := 22) (by decide +kernel)) (by decide +kernel)
theorem q_300 : (Jvm.Cond.instanceMethod ({ cls := "ChipfoldModel", name := "can", desc := "([II)Z" } : Jvm.MethodName)) ∈ WG := wg_6 (List.mem_of_getElem? (i := 24) (by decide +kernel)) (by decide +kernel)
theorem dX11_waves_59 : decode cX11_waves 59 = .ok (.bastore, 1) := by decide +kernel
theorem dX11_waves_60 : decode cX11_waves 60 = .ok (.iload_n 3, 1) := by decide +kernel
theorem dX11_waves_61 : decode cX11_waves 61 = .ok (.aload 4, 2) := by decide +kernel
theorem dX11_waves_63 : decode cX11_waves 63 = .ok (.iload 5, 2) := by decide +kernel
theorem dX11_waves_65 : decode cX11_waves 65 = .ok (.baload, 1) := by decide +kernel
theorem dX11_waves_66 : decode cX11_waves 66 = .ok (.ior, 1) := by decide +kernel
theorem dX11_waves_67 : decode cX11_waves 67 = .ok (.istore_n 3, 1) := by decide +kernel
theorem dX11_waves_68 : decode cX11_waves 68 = .ok (.iinc 5 1, 3) := by decide +kernel
theorem dX11_waves_71 : decode cX11_waves 71 = .ok (.goto (-32), 3) := by decide +kernel
set_option maxRecDepth 100000 in
set_option maxHeartbeats 400000 in
theorem c_X11_init {l : Launch} {D : va_G} {k : Nat → ClassId} (mo : Nat)  : CM l D k yX11_init cX11_init 1 none  1 12 [.ref mo] [(mo, .inr (15, [.null, .null, .null, .null, .null, .null, .null, .int 0, .int 0, .int 0, .int 0, .int 0]))] (fun rv9 w9 => rv9 = none ∧ ∃ (e0 : Nat) (er : Nat → Nat) (c1 : Nat) (c2 : Nat) (c3 : Nat) (c4 : Nat) (c5 : Nat), w9 = [(mo, .inr (15, [.ref e0, .ref c1, .ref c2, .ref c3, .ref c4, .ref c5, .null, .int (nI 0), .int (nI 0), .int 0, .int 0, .int 0])), (e0, aR k 3 6 (fun i9 => if i9 < 6 then some (er i9) else none)), ((er 0), aI k 6 (fun _ => 0)), ((er 1), aI k 6 (fun _ => 0)), ((er 2), aI k 6 (fun _ => 0)), ((er 3), aI k 6 (fun _ => 0)), ((er 4), aI k 6 (fun _ => 0)), ((er 5), aI k 6 (fun _ => 0)), (c1, aI k 6 (fun _ => 0)), (c2, aI k 6 (fun _ => 0)), (c3, aI k 6 (fun _ => 0)), (c4, aI k 6 (fun _ => 0)), (c5, aI k 6 (fun _ => 0))]) 12 72 5 := by
  refine CM.of (lv0 := [(0, .ref mo)]) (by decide +kernel) (Nat.le_of_ble_eq_true rfl) rfl ?_
  intro p e s m below meth c C hr hlk hin had
  refine g_aload_n (pc := 0) C 0 rfl rfl dX11_init_0 ?_
  refine g_obj (pc := 1) C q_262 q_2 q_3 (Nat.le_of_ble_eq_true rfl) (Nat.le_of_ble_eq_true rfl) dX11_init_1 ?_
  refine g_aload_n (pc := 4) C 0 rfl rfl dX11_init_4 ?_
  refine g_bipush (pc := 5) (v := 6) C (by decide) dX11_init_5 ?_
  refine g_bipush (pc := 7) (v := 6) C (by decide) dX11_init_7 ?_
  refine g_mnaI (pc := 9) (cells := 0) (slots := 0) (g := 0) C q_263 q_4 (Nat.le_of_ble_eq_true rfl) (Nat.le_of_ble_eq_true rfl) dX11_init_9 (fun q1 r2 => ?_)
  refine G.eqw (ws' := [(mo, .inr (15, [.null, .null, .null, .null, .null, .null, .null, .int 0, .int 0, .int 0, .int 0, .int 0])), (q1, aR k 3 6 (fun i9 => if i9 < 6 then some (r2 i9) else none)), ((r2 0), aI k 6 (fun _ => 0)), ((r2 1), aI k 6 (fun _ => 0)), ((r2 2), aI k 6 (fun _ => 0)), ((r2 3), aI k 6 (fun _ => 0)), ((r2 4), aI k 6 (fun _ => 0)), ((r2 5), aI k 6 (fun _ => 0))]) rfl ?_
  refine g_putF (pc := 13) C (T := TX11) inX11 0 rfl rfl 0 (by decide) q_256 rfl tyX11 tyX11_ok nmX11 rfl hin rfl [(mo, .inr (15, [.ref q1, .null, .null, .null, .null, .null, .null, .int 0, .int 0, .int 0, .int 0, .int 0])), (q1, aR k 3 6 (fun i9 => if i9 < 6 then some (r2 i9) else none)), ((r2 0), aI k 6 (fun _ => 0)), ((r2 1), aI k 6 (fun _ => 0)), ((r2 2), aI k 6 (fun _ => 0)), ((r2 3), aI k 6 (fun _ => 0)), ((r2 4), aI k 6 (fun _ => 0)), ((r2 5), aI k 6 (fun _ => 0))] (tyX11_ok 0 (by decide)) rfl rfl (Nat.le_of_ble_eq_true rfl) rfl dX11_init_13 ?_
  refine g_aload_n (pc := 16) C 0 rfl rfl dX11_init_16 ?_
  refine g_bipush (pc := 17) (v := 6) C (by decide) dX11_init_17 ?_
  refine g_newI (pc := 19) (cells := 7) (slots := 42) (g := 0) C 6 q_4 (by decide) (by decide) (Nat.le_of_ble_eq_true rfl) (Nat.le_of_ble_eq_true rfl) (Nat.le_of_ble_eq_true rfl) dX11_init_19 (fun q3 => ?_)
  refine G.eqw (ws' := [(mo, .inr (15, [.ref q1, .null, .null, .null, .null, .null, .null, .int 0, .int 0, .int 0, .int 0, .int 0])), (q1, aR k 3 6 (fun i9 => if i9 < 6 then some (r2 i9) else none)), ((r2 0), aI k 6 (fun _ => 0)), ((r2 1), aI k 6 (fun _ => 0)), ((r2 2), aI k 6 (fun _ => 0)), ((r2 3), aI k 6 (fun _ => 0)), ((r2 4), aI k 6 (fun _ => 0)), ((r2 5), aI k 6 (fun _ => 0)), (q3, aI k 6 (fun _ => 0))]) rfl ?_
  refine g_put (pc := 21) C (T := TX11) inX11 0 rfl rfl 1 (by decide) q_250 rfl tyX11 tyX11_ok nmX11 rfl [(mo, .inr (15, [.ref q1, .ref q3, .null, .null, .null, .null, .null, .int 0, .int 0, .int 0, .int 0, .int 0])), (q1, aR k 3 6 (fun i9 => if i9 < 6 then some (r2 i9) else none)), ((r2 0), aI k 6 (fun _ => 0)), ((r2 1), aI k 6 (fun _ => 0)), ((r2 2), aI k 6 (fun _ => 0)), ((r2 3), aI k 6 (fun _ => 0)), ((r2 4), aI k 6 (fun _ => 0)), ((r2 5), aI k 6 (fun _ => 0)), (q3, aI k 6 (fun _ => 0))] (tyX11_ok 1 (by decide)) rfl rfl (Nat.le_of_ble_eq_true rfl) rfl dX11_init_21 ?_
  refine g_aload_n (pc := 24) C 0 rfl rfl dX11_init_24 ?_
  refine g_bipush (pc := 25) (v := 6) C (by decide) dX11_init_25 ?_
  refine g_newI (pc := 27) (cells := 8) (slots := 48) (g := 1) C 6 q_4 (by decide) (by decide) (Nat.le_of_ble_eq_true rfl) (Nat.le_of_ble_eq_true rfl) (Nat.le_of_ble_eq_true rfl) dX11_init_27 (fun q4 => ?_)
  refine G.eqw (ws' := [(mo, .inr (15, [.ref q1, .ref q3, .null, .null, .null, .null, .null, .int 0, .int 0, .int 0, .int 0, .int 0])), (q1, aR k 3 6 (fun i9 => if i9 < 6 then some (r2 i9) else none)), ((r2 0), aI k 6 (fun _ => 0)), ((r2 1), aI k 6 (fun _ => 0)), ((r2 2), aI k 6 (fun _ => 0)), ((r2 3), aI k 6 (fun _ => 0)), ((r2 4), aI k 6 (fun _ => 0)), ((r2 5), aI k 6 (fun _ => 0)), (q3, aI k 6 (fun _ => 0)), (q4, aI k 6 (fun _ => 0))]) rfl ?_
  refine g_put (pc := 29) C (T := TX11) inX11 0 rfl rfl 2 (by decide) q_251 rfl tyX11 tyX11_ok nmX11 rfl [(mo, .inr (15, [.ref q1, .ref q3, .ref q4, .null, .null, .null, .null, .int 0, .int 0, .int 0, .int 0, .int 0])), (q1, aR k 3 6 (fun i9 => if i9 < 6 then some (r2 i9) else none)), ((r2 0), aI k 6 (fun _ => 0)), ((r2 1), aI k 6 (fun _ => 0)), ((r2 2), aI k 6 (fun _ => 0)), ((r2 3), aI k 6 (fun _ => 0)), ((r2 4), aI k 6 (fun _ => 0)), ((r2 5), aI k 6 (fun _ => 0)), (q3, aI k 6 (fun _ => 0)), (q4, aI k 6 (fun _ => 0))] (tyX11_ok 2 (by decide)) rfl rfl (Nat.le_of_ble_eq_true rfl) rfl dX11_init_29 ?_
  refine g_aload_n (pc := 32) C 0 rfl rfl dX11_init_32 ?_
  refine g_bipush (pc := 33) (v := 6) C (by decide) dX11_init_33 ?_
  refine g_newI (pc := 35) (cells := 9) (slots := 54) (g := 2) C 6 q_4 (by decide) (by decide) (Nat.le_of_ble_eq_true rfl) (Nat.le_of_ble_eq_true rfl) (Nat.le_of_ble_eq_true rfl) dX11_init_35 (fun q5 => ?_)
  refine G.eqw (ws' := [(mo, .inr (15, [.ref q1, .ref q3, .ref q4, .null, .null, .null, .null, .int 0, .int 0, .int 0, .int 0, .int 0])), (q1, aR k 3 6 (fun i9 => if i9 < 6 then some (r2 i9) else none)), ((r2 0), aI k 6 (fun _ => 0)), ((r2 1), aI k 6 (fun _ => 0)), ((r2 2), aI k 6 (fun _ => 0)), ((r2 3), aI k 6 (fun _ => 0)), ((r2 4), aI k 6 (fun _ => 0)), ((r2 5), aI k 6 (fun _ => 0)), (q3, aI k 6 (fun _ => 0)), (q4, aI k 6 (fun _ => 0)), (q5, aI k 6 (fun _ => 0))]) rfl ?_
  refine g_put (pc := 37) C (T := TX11) inX11 0 rfl rfl 3 (by decide) q_252 rfl tyX11 tyX11_ok nmX11 rfl [(mo, .inr (15, [.ref q1, .ref q3, .ref q4, .ref q5, .null, .null, .null, .int 0, .int 0, .int 0, .int 0, .int 0])), (q1, aR k 3 6 (fun i9 => if i9 < 6 then some (r2 i9) else none)), ((r2 0), aI k 6 (fun _ => 0)), ((r2 1), aI k 6 (fun _ => 0)), ((r2 2), aI k 6 (fun _ => 0)), ((r2 3), aI k 6 (fun _ => 0)), ((r2 4), aI k 6 (fun _ => 0)), ((r2 5), aI k 6 (fun _ => 0)), (q3, aI k 6 (fun _ => 0)), (q4, aI k 6 (fun _ => 0)), (q5, aI k 6 (fun _ => 0))] (tyX11_ok 3 (by decide)) rfl rfl (Nat.le_of_ble_eq_true rfl) rfl dX11_init_37 ?_
  refine g_aload_n (pc := 40) C 0 rfl rfl dX11_init_40 ?_
  refine g_bipush (pc := 41) (v := 6) C (by decide) dX11_init_41 ?_
  refine g_newI (pc := 43) (cells := 10) (slots := 60) (g := 3) C 6 q_4 (by decide) (by decide) (Nat.le_of_ble_eq_true rfl) (Nat.le_of_ble_eq_true rfl) (Nat.le_of_ble_eq_true rfl) dX11_init_43 (fun q6 => ?_)
  refine G.eqw (ws' := [(mo, .inr (15, [.ref q1, .ref q3, .ref q4, .ref q5, .null, .null, .null, .int 0, .int 0, .int 0, .int 0, .int 0])), (q1, aR k 3 6 (fun i9 => if i9 < 6 then some (r2 i9) else none)), ((r2 0), aI k 6 (fun _ => 0)), ((r2 1), aI k 6 (fun _ => 0)), ((r2 2), aI k 6 (fun _ => 0)), ((r2 3), aI k 6 (fun _ => 0)), ((r2 4), aI k 6 (fun _ => 0)), ((r2 5), aI k 6 (fun _ => 0)), (q3, aI k 6 (fun _ => 0)), (q4, aI k 6 (fun _ => 0)), (q5, aI k 6 (fun _ => 0)), (q6, aI k 6 (fun _ => 0))]) rfl ?_
  refine g_put (pc := 45) C (T := TX11) inX11 0 rfl rfl 4 (by decide) q_253 rfl tyX11 tyX11_ok nmX11 rfl [(mo, .inr (15, [.ref q1, .ref q3, .ref q4, .ref q5, .ref q6, .null, .null, .int 0, .int 0, .int 0, .int 0, .int 0])), (q1, aR k 3 6 (fun i9 => if i9 < 6 then some (r2 i9) else none)), ((r2 0), aI k 6 (fun _ => 0)), ((r2 1), aI k 6 (fun _ => 0)), ((r2 2), aI k 6 (fun _ => 0)), ((r2 3), aI k 6 (fun _ => 0)), ((r2 4), aI k 6 (fun _ => 0)), ((r2 5), aI k 6 (fun _ => 0)), (q3, aI k 6 (fun _ => 0)), (q4, aI k 6 (fun _ => 0)), (q5, aI k 6 (fun _ => 0)), (q6, aI k 6 (fun _ => 0))] (tyX11_ok 4 (by decide)) rfl rfl (Nat.le_of_ble_eq_true rfl) rfl dX11_init_45 ?_
  refine g_aload_n (pc := 48) C 0 rfl rfl dX11_init_48 ?_
  refine g_bipush (pc := 49) (v := 6) C (by decide) dX11_init_49 ?_
  refine g_newI (pc := 51) (cells := 11) (slots := 66) (g := 4) C 6 q_4 (by decide) (by decide) (Nat.le_of_ble_eq_true rfl) (Nat.le_of_ble_eq_true rfl) (Nat.le_of_ble_eq_true rfl) dX11_init_51 (fun q7 => ?_)
  refine G.eqw (ws' := [(mo, .inr (15, [.ref q1, .ref q3, .ref q4, .ref q5, .ref q6, .null, .null, .int 0, .int 0, .int 0, .int 0, .int 0])), (q1, aR k 3 6 (fun i9 => if i9 < 6 then some (r2 i9) else none)), ((r2 0), aI k 6 (fun _ => 0)), ((r2 1), aI k 6 (fun _ => 0)), ((r2 2), aI k 6 (fun _ => 0)), ((r2 3), aI k 6 (fun _ => 0)), ((r2 4), aI k 6 (fun _ => 0)), ((r2 5), aI k 6 (fun _ => 0)), (q3, aI k 6 (fun _ => 0)), (q4, aI k 6 (fun _ => 0)), (q5, aI k 6 (fun _ => 0)), (q6, aI k 6 (fun _ => 0)), (q7, aI k 6 (fun _ => 0))]) rfl ?_
  refine g_put (pc := 53) C (T := TX11) inX11 0 rfl rfl 5 (by decide) q_254 rfl tyX11 tyX11_ok nmX11 rfl [(mo, .inr (15, [.ref q1, .ref q3, .ref q4, .ref q5, .ref q6, .ref q7, .null, .int 0, .int 0, .int 0, .int 0, .int 0])), (q1, aR k 3 6 (fun i9 => if i9 < 6 then some (r2 i9) else none)), ((r2 0), aI k 6 (fun _ => 0)), ((r2 1), aI k 6 (fun _ => 0)), ((r2 2), aI k 6 (fun _ => 0)), ((r2 3), aI k 6 (fun _ => 0)), ((r2 4), aI k 6 (fun _ => 0)), ((r2 5), aI k 6 (fun _ => 0)), (q3, aI k 6 (fun _ => 0)), (q4, aI k 6 (fun _ => 0)), (q5, aI k 6 (fun _ => 0)), (q6, aI k 6 (fun _ => 0)), (q7, aI k 6 (fun _ => 0))] (tyX11_ok 5 (by decide)) rfl rfl (Nat.le_of_ble_eq_true rfl) rfl dX11_init_53 ?_
  refine g_aload_n (pc := 56) C 0 rfl rfl dX11_init_56 ?_
  refine g_null (pc := 57) C dX11_init_57 ?_
  refine g_put (pc := 58) C (T := TX11) inX11 0 rfl rfl 6 (by decide) q_264 rfl tyX11 tyX11_ok nmX11 rfl [(mo, .inr (15, [.ref q1, .ref q3, .ref q4, .ref q5, .ref q6, .ref q7, .null, .int 0, .int 0, .int 0, .int 0, .int 0])), (q1, aR k 3 6 (fun i9 => if i9 < 6 then some (r2 i9) else none)), ((r2 0), aI k 6 (fun _ => 0)), ((r2 1), aI k 6 (fun _ => 0)), ((r2 2), aI k 6 (fun _ => 0)), ((r2 3), aI k 6 (fun _ => 0)), ((r2 4), aI k 6 (fun _ => 0)), ((r2 5), aI k 6 (fun _ => 0)), (q3, aI k 6 (fun _ => 0)), (q4, aI k 6 (fun _ => 0)), (q5, aI k 6 (fun _ => 0)), (q6, aI k 6 (fun _ => 0)), (q7, aI k 6 (fun _ => 0))] (tyX11_ok 6 (by decide)) rfl rfl (Nat.le_of_ble_eq_true rfl) rfl dX11_init_58 ?_
  refine g_aload_n (pc := 61) C 0 rfl rfl dX11_init_61 ?_
  refine g_iconst (pc := 62) (v := 0) C (by decide) dX11_init_62 ?_
  refine g_put (pc := 63) C (T := TX11) inX11 0 rfl rfl 7 (by decide) q_245 rfl tyX11 tyX11_ok nmX11 rfl [(mo, .inr (15, [.ref q1, .ref q3, .ref q4, .ref q5, .ref q6, .ref q7, .null, .int 0, .int 0, .int 0, .int 0, .int 0])), (q1, aR k 3 6 (fun i9 => if i9 < 6 then some (r2 i9) else none)), ((r2 0), aI k 6 (fun _ => 0)), ((r2 1), aI k 6 (fun _ => 0)), ((r2 2), aI k 6 (fun _ => 0)), ((r2 3), aI k 6 (fun _ => 0)), ((r2 4), aI k 6 (fun _ => 0)), ((r2 5), aI k 6 (fun _ => 0)), (q3, aI k 6 (fun _ => 0)), (q4, aI k 6 (fun _ => 0)), (q5, aI k 6 (fun _ => 0)), (q6, aI k 6 (fun _ => 0)), (q7, aI k 6 (fun _ => 0))] (tyX11_ok 7 (by decide)) rfl (by rfl) (Nat.le_of_ble_eq_true rfl) rfl dX11_init_63 ?_
  refine g_aload_n (pc := 66) C 0 rfl rfl dX11_init_66 ?_
  refine g_iconst (pc := 67) (v := 0) C (by decide) dX11_init_67 ?_
  refine g_put (pc := 68) C (T := TX11) inX11 0 rfl rfl 8 (by decide) q_257 rfl tyX11 tyX11_ok nmX11 rfl [(mo, .inr (15, [.ref q1, .ref q3, .ref q4, .ref q5, .ref q6, .ref q7, .null, .int 0, .int 0, .int 0, .int 0, .int 0])), (q1, aR k 3 6 (fun i9 => if i9 < 6 then some (r2 i9) else none)), ((r2 0), aI k 6 (fun _ => 0)), ((r2 1), aI k 6 (fun _ => 0)), ((r2 2), aI k 6 (fun _ => 0)), ((r2 3), aI k 6 (fun _ => 0)), ((r2 4), aI k 6 (fun _ => 0)), ((r2 5), aI k 6 (fun _ => 0)), (q3, aI k 6 (fun _ => 0)), (q4, aI k 6 (fun _ => 0)), (q5, aI k 6 (fun _ => 0)), (q6, aI k 6 (fun _ => 0)), (q7, aI k 6 (fun _ => 0))] (tyX11_ok 8 (by decide)) rfl (by rfl) (Nat.le_of_ble_eq_true rfl) rfl dX11_init_68 ?_
  refine g_aload_n (pc := 71) C 0 rfl rfl dX11_init_71 ?_
  refine g_iconst (pc := 72) (v := 0) C (by decide) dX11_init_72 ?_
  refine g_put (pc := 73) C (T := TX11) inX11 0 rfl rfl 9 (by decide) q_255 rfl tyX11 tyX11_ok nmX11 rfl [(mo, .inr (15, [.ref q1, .ref q3, .ref q4, .ref q5, .ref q6, .ref q7, .null, .int 0, .int 0, .int 0, .int 0, .int 0])), (q1, aR k 3 6 (fun i9 => if i9 < 6 then some (r2 i9) else none)), ((r2 0), aI k 6 (fun _ => 0)), ((r2 1), aI k 6 (fun _ => 0)), ((r2 2), aI k 6 (fun _ => 0)), ((r2 3), aI k 6 (fun _ => 0)), ((r2 4), aI k 6 (fun _ => 0)), ((r2 5), aI k 6 (fun _ => 0)), (q3, aI k 6 (fun _ => 0)), (q4, aI k 6 (fun _ => 0)), (q5, aI k 6 (fun _ => 0)), (q6, aI k 6 (fun _ => 0)), (q7, aI k 6 (fun _ => 0))] (tyX11_ok 9 (by decide)) rfl (by rfl) (Nat.le_of_ble_eq_true rfl) rfl dX11_init_73 ?_
  refine g_aload_n (pc := 76) C 0 rfl rfl dX11_init_76 ?_
  refine g_iconst (pc := 77) (v := 0) C (by decide) dX11_init_77 ?_
  refine g_put (pc := 78) C (T := TX11) inX11 0 rfl rfl 10 (by decide) q_265 rfl tyX11 tyX11_ok nmX11 rfl [(mo, .inr (15, [.ref q1, .ref q3, .ref q4, .ref q5, .ref q6, .ref q7, .null, .int 0, .int 0, .int 0, .int 0, .int 0])), (q1, aR k 3 6 (fun i9 => if i9 < 6 then some (r2 i9) else none)), ((r2 0), aI k 6 (fun _ => 0)), ((r2 1), aI k 6 (fun _ => 0)), ((r2 2), aI k 6 (fun _ => 0)), ((r2 3), aI k 6 (fun _ => 0)), ((r2 4), aI k 6 (fun _ => 0)), ((r2 5), aI k 6 (fun _ => 0)), (q3, aI k 6 (fun _ => 0)), (q4, aI k 6 (fun _ => 0)), (q5, aI k 6 (fun _ => 0)), (q6, aI k 6 (fun _ => 0)), (q7, aI k 6 (fun _ => 0))] (tyX11_ok 10 (by decide)) rfl (by rfl) (Nat.le_of_ble_eq_true rfl) rfl dX11_init_78 ?_
  refine g_aload_n (pc := 81) C 0 rfl rfl dX11_init_81 ?_
  refine g_iconst (pc := 82) (v := 0) C (by decide) dX11_init_82 ?_
  refine g_put (pc := 83) C (T := TX11) inX11 0 rfl rfl 11 (by decide) q_244 rfl tyX11 tyX11_ok nmX11 rfl [(mo, .inr (15, [.ref q1, .ref q3, .ref q4, .ref q5, .ref q6, .ref q7, .null, .int 0, .int 0, .int 0, .int 0, .int 0])), (q1, aR k 3 6 (fun i9 => if i9 < 6 then some (r2 i9) else none)), ((r2 0), aI k 6 (fun _ => 0)), ((r2 1), aI k 6 (fun _ => 0)), ((r2 2), aI k 6 (fun _ => 0)), ((r2 3), aI k 6 (fun _ => 0)), ((r2 4), aI k 6 (fun _ => 0)), ((r2 5), aI k 6 (fun _ => 0)), (q3, aI k 6 (fun _ => 0)), (q4, aI k 6 (fun _ => 0)), (q5, aI k 6 (fun _ => 0)), (q6, aI k 6 (fun _ => 0)), (q7, aI k 6 (fun _ => 0))] (tyX11_ok 11 (by decide)) rfl (by rfl) (Nat.le_of_ble_eq_true rfl) rfl dX11_init_83 ?_
  refine G.eqw (ws' := [(mo, .inr (15, [.ref q1, .ref q3, .ref q4, .ref q5, .ref q6, .ref q7, .null, .int (nI 0), .int 0, .int 0, .int 0, .int 0])), (q1, aR k 3 6 (fun i9 => if i9 < 6 then some (r2 i9) else none)), ((r2 0), aI k 6 (fun _ => 0)), ((r2 1), aI k 6 (fun _ => 0)), ((r2 2), aI k 6 (fun _ => 0)), ((r2 3), aI k 6 (fun _ => 0)), ((r2 4), aI k 6 (fun _ => 0)), ((r2 5), aI k 6 (fun _ => 0)), (q3, aI k 6 (fun _ => 0)), (q4, aI k 6 (fun _ => 0)), (q5, aI k 6 (fun _ => 0)), (q6, aI k 6 (fun _ => 0)), (q7, aI k 6 (fun _ => 0))]) (congrArg (β := va_W) (fun z9 => [(mo, .inr (15, [.ref q1, .ref q3, .ref q4, .ref q5, .ref q6, .ref q7, .null, .int z9, .int 0, .int 0, .int 0, .int 0])), (q1, aR k 3 6 (fun i9 => if i9 < 6 then some (r2 i9) else none)), ((r2 0), aI k 6 (fun _ => 0)), ((r2 1), aI k 6 (fun _ => 0)), ((r2 2), aI k 6 (fun _ => 0)), ((r2 3), aI k 6 (fun _ => 0)), ((r2 4), aI k 6 (fun _ => 0)), ((r2 5), aI k 6 (fun _ => 0)), (q3, aI k 6 (fun _ => 0)), (q4, aI k 6 (fun _ => 0)), (q5, aI k 6 (fun _ => 0)), (q6, aI k 6 (fun _ => 0)), (q7, aI k 6 (fun _ => 0))]) (show (0 : Int32) = (nI 0) from by first | rfl | simp_all)) ?_
  refine G.eqw (ws' := [(mo, .inr (15, [.ref q1, .ref q3, .ref q4, .ref q5, .ref q6, .ref q7, .null, .int (nI 0), .int (nI 0), .int 0, .int 0, .int 0])), (q1, aR k 3 6 (fun i9 => if i9 < 6 then some (r2 i9) else none)), ((r2 0), aI k 6 (fun _ => 0)), ((r2 1), aI k 6 (fun _ => 0)), ((r2 2), aI k 6 (fun _ => 0)), ((r2 3), aI k 6 (fun _ => 0)), ((r2 4), aI k 6 (fun _ => 0)), ((r2 5), aI k 6 (fun _ => 0)), (q3, aI k 6 (fun _ => 0)), (q4, aI k 6 (fun _ => 0)), (q5, aI k 6 (fun _ => 0)), (q6, aI k 6 (fun _ => 0)), (q7, aI k 6 (fun _ => 0))]) (congrArg (β := va_W) (fun z9 => [(mo, .inr (15, [.ref q1, .ref q3, .ref q4, .ref q5, .ref q6, .ref q7, .null, .int (nI 0), .int z9, .int 0, .int 0, .int 0])), (q1, aR k 3 6 (fun i9 => if i9 < 6 then some (r2 i9) else none)), ((r2 0), aI k 6 (fun _ => 0)), ((r2 1), aI k 6 (fun _ => 0)), ((r2 2), aI k 6 (fun _ => 0)), ((r2 3), aI k 6 (fun _ => 0)), ((r2 4), aI k 6 (fun _ => 0)), ((r2 5), aI k 6 (fun _ => 0)), (q3, aI k 6 (fun _ => 0)), (q4, aI k 6 (fun _ => 0)), (q5, aI k 6 (fun _ => 0)), (q6, aI k 6 (fun _ => 0)), (q7, aI k 6 (fun _ => 0))]) (show (0 : Int32) = (nI 0) from by first | rfl | simp_all)) ?_
  exact g_vret (pc := 86) C hr hlk (by first | decide | omega) (by first | decide | omega) (by first | decide | omega) dX11_init_86 ⟨rfl, q1, r2, q3, q4, q5, q6, q7, rfl⟩
set_option maxRecDepth 100000 in
set_option maxHeartbeats 400000 in
theorem c_X11_vertex {l : Launch} {D : va_G} {k : Nat → ClassId} (mo : Nat) (e0 : Nat) (c1 : Nat) (c2 : Nat) (c3 : Nat) (c4 : Nat) (c5 : Nat) (n : Nat) (z : Nat) (sw : Int32) (sd : Int32) (th : Int32) (hn : n < 6) : CM l D k yX11_vertex cX11_vertex 1 (some .int)  1 20 [.ref mo] [(mo, .inr (15, [.ref e0, .ref c1, .ref c2, .ref c3, .ref c4, .ref c5, .null, .int (nI n), .int (nI z), .int sw, .int sd, .int th]))] (fun rv9 w9 => rv9 = (some (.int (nI n))) ∧ ∃ (b1 : Nat) (b2 : Nat) (b3 : Nat) (b4 : Nat) (b5 : Nat), w9 = [(mo, .inr (15, [.ref e0, .ref b1, .ref b2, .ref b3, .ref b4, .ref b5, .null, .int (nI (n + 1)), .int (nI z), .int 0, .int sd, .int 0])), (b1, aI k 6 (fun _ => 0)), (b2, aI k 6 (fun _ => 0)), (b3, aI k 6 (fun _ => 0)), (b4, aI k 6 (fun _ => 0)), (b5, aI k 6 (fun _ => 0))]) 5 30 5 := by
  refine CM.of (lv0 := [(0, .ref mo)]) (by decide +kernel) (Nat.le_of_ble_eq_true rfl) rfl ?_
  intro p e s m below meth c C hr hlk hin had
  refine g_aload_n (pc := 0) C 0 rfl rfl dX11_vertex_0 ?_
  refine g_aload_n (pc := 1) C 0 rfl rfl dX11_vertex_1 ?_
  refine g_get (pc := 2) C (T := TX11) inX11 0 rfl rfl 7 (by decide) q_245 rfl rfl dX11_vertex_2 ?_
  refine g_bipush (pc := 5) (v := 6) C (by decide) dX11_vertex_5 ?_
  refine g_icmp_ne (pc := 7) C 14 (by decide) dX11_vertex_7 (fun c_7 => ?_) (fun c_7 => ?_)
  · refine g_iconst (pc := 14) (v := 0) C (by decide) dX11_vertex_14 ?_
    refine g_put (pc := 15) C (T := TX11) inX11 0 rfl rfl 11 (by decide) q_244 rfl tyX11 tyX11_ok nmX11 rfl [(mo, .inr (15, [.ref e0, .ref c1, .ref c2, .ref c3, .ref c4, .ref c5, .null, .int (nI n), .int (nI z), .int sw, .int sd, .int 0]))] (tyX11_ok 11 (by decide)) rfl (by rfl) (Nat.le_of_ble_eq_true rfl) rfl dX11_vertex_15 ?_
    refine g_aload_n (pc := 18) C 0 rfl rfl dX11_vertex_18 ?_
    refine g_get (pc := 19) C (T := TX11) inX11 0 rfl rfl 11 (by decide) q_244 rfl rfl dX11_vertex_19 ?_
    refine g_if_le (pc := 22) C 27 (by decide) dX11_vertex_22 (fun c_22 => ?_) (fun c_22 => ?_)
    · refine g_aload_n (pc := 27) C 0 rfl rfl dX11_vertex_27 ?_
      refine g_dup (pc := 28) C rfl dX11_vertex_28 ?_
      refine g_get (pc := 29) C (T := TX11) inX11 0 rfl rfl 7 (by decide) q_245 rfl rfl dX11_vertex_29 ?_
      refine g_iconst (pc := 32) (v := 1) C (by decide) dX11_vertex_32 ?_
      refine g_iadd (pc := 33) C dX11_vertex_33 ?_
      refine G.eqs (st' := [.int (nI (n + 1)), .ref mo]) (congrArg (β := List Value) (fun z9 => [.int z9, .ref mo]) (show (((nI n) + 1) : Int32) = (nI (n + 1)) from nI_1 n)) ?_
      refine g_put (pc := 34) C (T := TX11) inX11 0 rfl rfl 7 (by decide) q_245 rfl tyX11 tyX11_ok nmX11 rfl [(mo, .inr (15, [.ref e0, .ref c1, .ref c2, .ref c3, .ref c4, .ref c5, .null, .int (nI (n + 1)), .int (nI z), .int sw, .int sd, .int 0]))] (tyX11_ok 7 (by decide)) rfl (by rfl) (Nat.le_of_ble_eq_true rfl) rfl dX11_vertex_34 ?_
      refine g_aload_n (pc := 37) C 0 rfl rfl dX11_vertex_37 ?_
      refine g_callV (pc := 38) (cells := 0) (slots := 0) (g := 0) (As := []) (st := []) (T := TX11) (q0 := 0) C (nA := 0) rfl (c_X11_begin mo e0 c1 c2 c3 c4 c5 (n + 1) z sw sd 0 ) q_268 q_269 q_267 q_247 q_266 (by decide +kernel) rfl rfl dX11_vertex_38 ⟨Nat.le_of_ble_eq_true rfl, Nat.le_of_ble_eq_true rfl⟩ [0] [] rfl (wr := []) rfl (by decide) (by decide) (by decide) (Nat.le_of_ble_eq_true rfl) ⟨Nat.le_of_ble_eq_true rfl, Nat.le_of_ble_eq_true rfl⟩ (fun rv w1 h1 => ?_)
      obtain ⟨rfl, q1, q2, q3, q4, q5, rfl⟩ := h1
      refine G.aft [0, 1, 2, 3, 4, 5] (ws' := [(mo, .inr (15, [.ref e0, .ref q1, .ref q2, .ref q3, .ref q4, .ref q5, .null, .int (nI (n + 1)), .int (nI z), .int 0, .int sd, .int 0])), (q1, aI k 6 (fun _ => 0)), (q2, aI k 6 (fun _ => 0)), (q3, aI k 6 (fun _ => 0)), (q4, aI k 6 (fun _ => 0)), (q5, aI k 6 (fun _ => 0))]) (st' := []) (cells' := 5) (slots' := 30) (g' := 5) (by decide) rfl rfl rfl rfl rfl ?_
      refine g_aload_n (pc := 41) C 0 rfl rfl dX11_vertex_41 ?_
      refine g_get (pc := 42) C (T := TX11) inX11 0 rfl rfl 7 (by decide) q_245 rfl rfl dX11_vertex_42 ?_
      refine g_iconst (pc := 45) (v := 1) C (by decide) dX11_vertex_45 ?_
      refine g_isub (pc := 46) C dX11_vertex_46 ?_
      refine G.eqs (st' := [.int (nI n)]) (congrArg (β := List Value) (fun z9 => [.int z9]) (show (((nI (n + 1)) - 1) : Int32) = (nI n) from nI_pred n)) ?_
      exact g_iret (pc := 47) C hr hlk (by first | decide | omega) (by first | decide | omega) (by first | decide | omega) dX11_vertex_47 ⟨rfl, q1, q2, q3, q4, q5, rfl⟩
    · exact absurd (show (0 : Int32) ≤ 0 by decide) c_22
  · exact absurd ((nI_eq (show n < 2 ^ 31 by omega) (show 6 < 2 ^ 31 by omega)).mp (show nI n = nI 6 from c_7)) (by omega)
/-- one number of the table of edges anew -/
def eU (M : Nat → Nat → Int32) (v w : Nat) (x : Int32) : Nat → Nat → Int32 := fun i => if i = v then upd (M v) w x else M i
theorem inR_y {a b y : Nat} (h1 : a ≤ y) (h2 : y ≤ b) (h3 : b < 1000) : inR (nI y) (nI a) (nI b) = true := by
  unfold inR
  rw [decide_eq_true_eq, nI_ltI (by omega) (by omega), nI_ltI (by omega) (by omega)]
  omega
set_option maxRecDepth 100000 in
set_option maxHeartbeats 400000 in
theorem c_X11_edges {l : Launch} {D : va_G} {k : Nat → ClassId} (mo : Nat) (e0 : Nat) (c1 : Nat) (c2 : Nat) (c3 : Nat) (c4 : Nat) (c5 : Nat) (er : Nat → Nat) (n : Nat) (z : Nat) (sw : Int32) (sd : Int32) (th : Int32) (M : Nat → Nat → Int32) (v : Nat) (w : Nat) (y : Nat) (hn : n ≤ 6) (hv : v < n) (hw : w < n) (hvw : ¬ v = w) (hy : y ≤ 3) (hch : ¬ M v w = nI y) : CM l D k yX11_edges cX11_edges 5 (some .int)  2 43 [.ref mo, .int (nI v), .int (nI w), .int (nI y)] [(mo, .inr (15, [.ref e0, .ref c1, .ref c2, .ref c3, .ref c4, .ref c5, .null, .int (nI n), .int (nI z), .int sw, .int sd, .int th])), (e0, aR k 3 6 (fun i9 => if i9 < 6 then some (er i9) else none)), ((er 0), aI k 6 (M 0)), ((er 1), aI k 6 (M 1)), ((er 2), aI k 6 (M 2)), ((er 3), aI k 6 (M 3)), ((er 4), aI k 6 (M 4)), ((er 5), aI k 6 (M 5))] (fun rv9 w9 => rv9 = (some (.int (M v w))) ∧ ∃ (b1 : Nat) (b2 : Nat) (b3 : Nat) (b4 : Nat) (b5 : Nat), w9 = [(mo, .inr (15, [.ref e0, .ref b1, .ref b2, .ref b3, .ref b4, .ref b5, .null, .int (nI n), .int (nI z), .int 0, .int sd, .int 0])), (e0, aR k 3 6 (fun i9 => if i9 < 6 then some (er i9) else none)), ((er 0), aI k 6 ((eU (eU M v w (nI y)) w v (nI y)) 0)), ((er 1), aI k 6 ((eU (eU M v w (nI y)) w v (nI y)) 1)), ((er 2), aI k 6 ((eU (eU M v w (nI y)) w v (nI y)) 2)), ((er 3), aI k 6 ((eU (eU M v w (nI y)) w v (nI y)) 3)), ((er 4), aI k 6 ((eU (eU M v w (nI y)) w v (nI y)) 4)), ((er 5), aI k 6 ((eU (eU M v w (nI y)) w v (nI y)) 5)), (b1, aI k 6 (fun _ => 0)), (b2, aI k 6 (fun _ => 0)), (b3, aI k 6 (fun _ => 0)), (b4, aI k 6 (fun _ => 0)), (b5, aI k 6 (fun _ => 0))]) 5 30 5 := by
  refine CM.of (lv0 := [(0, .ref mo), (1, .int (nI v)), (2, .int (nI w)), (3, .int (nI y))]) (by decide +kernel) (Nat.le_of_ble_eq_true rfl) rfl ?_
  intro p e s m below meth c C hr hlk hin had
  refine g_aload_n (pc := 0) C 0 rfl rfl dX11_edges_0 ?_
  refine g_aload_n (pc := 1) C 0 rfl rfl dX11_edges_1 ?_
  refine g_iload_n (pc := 2) C 1 rfl rfl dX11_edges_2 ?_
  refine g_callV (pc := 3) (cells := 0) (slots := 0) (g := 0) (As := [.int (nI v)]) (st := [.ref mo]) (T := TX11) (q0 := 0) C (nA := 1) rfl (c_X11_isVertex mo e0 c1 c2 c3 c4 c5 n z sw sd th v (by first | assumption | decide | omega) (by first | assumption | decide | omega)) q_272 q_273 q_271 q_247 q_270 (by decide +kernel) rfl rfl dX11_edges_3 ⟨Nat.le_of_ble_eq_true rfl, Nat.le_of_ble_eq_true rfl⟩ [0] [1, 2, 3, 4, 5, 6, 7] rfl (wr := [(e0, aR k 3 6 (fun i9 => if i9 < 6 then some (er i9) else none)), ((er 0), aI k 6 (M 0)), ((er 1), aI k 6 (M 1)), ((er 2), aI k 6 (M 2)), ((er 3), aI k 6 (M 3)), ((er 4), aI k 6 (M 4)), ((er 5), aI k 6 (M 5))]) rfl (by decide) (by decide) (by decide) (Nat.le_of_ble_eq_true rfl) ⟨Nat.le_of_ble_eq_true rfl, Nat.le_of_ble_eq_true rfl⟩ (fun rv w1 h1 => ?_)
  obtain ⟨rfl, rfl⟩ := h1
  refine G.aft [7, 0, 1, 2, 3, 4, 5, 6] (ws' := [(mo, .inr (15, [.ref e0, .ref c1, .ref c2, .ref c3, .ref c4, .ref c5, .null, .int (nI n), .int (nI z), .int sw, .int sd, .int th])), (e0, aR k 3 6 (fun i9 => if i9 < 6 then some (er i9) else none)), ((er 0), aI k 6 (M 0)), ((er 1), aI k 6 (M 1)), ((er 2), aI k 6 (M 2)), ((er 3), aI k 6 (M 3)), ((er 4), aI k 6 (M 4)), ((er 5), aI k 6 (M 5))]) (st' := [.int (bI (decide (v < n))), .ref mo]) (cells' := 0) (slots' := 0) (g' := 0) (by decide) rfl rfl rfl rfl rfl ?_
  refine g_if_eq (pc := 6) C 17 (by decide) dX11_edges_6 (fun c_6 => ?_) (fun c_6 => ?_)
  · exact absurd c_6 (by simp [bI_0, hv])
  · refine g_aload_n (pc := 9) C 0 rfl rfl dX11_edges_9 ?_
    refine g_iload_n (pc := 10) C 2 rfl rfl dX11_edges_10 ?_
    refine g_callV (pc := 11) (cells := 0) (slots := 0) (g := 0) (As := [.int (nI w)]) (st := [.ref mo]) (T := TX11) (q0 := 0) C (nA := 1) rfl (c_X11_isVertex mo e0 c1 c2 c3 c4 c5 n z sw sd th w (by first | assumption | decide | omega) (by first | assumption | decide | omega)) q_272 q_273 q_271 q_247 q_270 (by decide +kernel) rfl rfl dX11_edges_11 ⟨Nat.le_of_ble_eq_true rfl, Nat.le_of_ble_eq_true rfl⟩ [0] [1, 2, 3, 4, 5, 6, 7] rfl (wr := [(e0, aR k 3 6 (fun i9 => if i9 < 6 then some (er i9) else none)), ((er 0), aI k 6 (M 0)), ((er 1), aI k 6 (M 1)), ((er 2), aI k 6 (M 2)), ((er 3), aI k 6 (M 3)), ((er 4), aI k 6 (M 4)), ((er 5), aI k 6 (M 5))]) rfl (by decide) (by decide) (by decide) (Nat.le_of_ble_eq_true rfl) ⟨Nat.le_of_ble_eq_true rfl, Nat.le_of_ble_eq_true rfl⟩ (fun rv w1 h1 => ?_)
    obtain ⟨rfl, rfl⟩ := h1
    refine G.aft [7, 0, 1, 2, 3, 4, 5, 6] (ws' := [(mo, .inr (15, [.ref e0, .ref c1, .ref c2, .ref c3, .ref c4, .ref c5, .null, .int (nI n), .int (nI z), .int sw, .int sd, .int th])), (e0, aR k 3 6 (fun i9 => if i9 < 6 then some (er i9) else none)), ((er 0), aI k 6 (M 0)), ((er 1), aI k 6 (M 1)), ((er 2), aI k 6 (M 2)), ((er 3), aI k 6 (M 3)), ((er 4), aI k 6 (M 4)), ((er 5), aI k 6 (M 5))]) (st' := [.int (bI (decide (w < n))), .ref mo]) (cells' := 0) (slots' := 0) (g' := 0) (by decide) rfl rfl rfl rfl rfl ?_
    refine g_if_ne (pc := 14) C 21 (by decide) dX11_edges_14 (fun c_14 => ?_) (fun c_14 => ?_)
    · refine g_iload_n (pc := 21) C 1 rfl rfl dX11_edges_21 ?_
      refine g_iload_n (pc := 22) C 2 rfl rfl dX11_edges_22 ?_
      refine g_icmp_eq (pc := 23) C 35 (by decide) dX11_edges_23 (fun c_23 => ?_) (fun c_23 => ?_)
      · exact absurd ((nI_eq (by omega) (by omega)).mp c_23) hvw
      · refine g_iload_n (pc := 26) C 3 rfl rfl dX11_edges_26 ?_
        refine g_iconst (pc := 27) (v := 0) C (by decide) dX11_edges_27 ?_
        refine g_iconst (pc := 28) (v := 3) C (by decide) dX11_edges_28 ?_
        refine g_callS (pc := 29) (cells := 0) (slots := 0) (g := 0) (As := [.int (nI y), .int 0, .int 3]) (st := [.ref mo]) (b := 0) C (nA := 3) rfl (c_X11_in (nI y) 0 3 ) q_248 q_249 q_247 q_246 (by decide +kernel) dX11_edges_29 ⟨Nat.le_of_ble_eq_true rfl, Nat.le_of_ble_eq_true rfl⟩ [] [0, 1, 2, 3, 4, 5, 6, 7] rfl (wr := [(mo, .inr (15, [.ref e0, .ref c1, .ref c2, .ref c3, .ref c4, .ref c5, .null, .int (nI n), .int (nI z), .int sw, .int sd, .int th])), (e0, aR k 3 6 (fun i9 => if i9 < 6 then some (er i9) else none)), ((er 0), aI k 6 (M 0)), ((er 1), aI k 6 (M 1)), ((er 2), aI k 6 (M 2)), ((er 3), aI k 6 (M 3)), ((er 4), aI k 6 (M 4)), ((er 5), aI k 6 (M 5))]) rfl (by decide) (by decide) (by decide) (Nat.le_of_ble_eq_true rfl) ⟨Nat.le_of_ble_eq_true rfl, Nat.le_of_ble_eq_true rfl⟩ (fun rv w1 h1 => ?_)
        obtain ⟨rfl, rfl⟩ := h1
        refine G.aft [0, 1, 2, 3, 4, 5, 6, 7] (ws' := [(mo, .inr (15, [.ref e0, .ref c1, .ref c2, .ref c3, .ref c4, .ref c5, .null, .int (nI n), .int (nI z), .int sw, .int sd, .int th])), (e0, aR k 3 6 (fun i9 => if i9 < 6 then some (er i9) else none)), ((er 0), aI k 6 (M 0)), ((er 1), aI k 6 (M 1)), ((er 2), aI k 6 (M 2)), ((er 3), aI k 6 (M 3)), ((er 4), aI k 6 (M 4)), ((er 5), aI k 6 (M 5))]) (st' := [.int (bI (inR (nI y) 0 3)), .ref mo]) (cells' := 0) (slots' := 0) (g' := 0) (by decide) rfl rfl rfl rfl rfl ?_
        refine g_if_ne (pc := 32) C 39 (by decide) dX11_edges_32 (fun c_32 => ?_) (fun c_32 => ?_)
        · refine g_iconst (pc := 39) (v := 0) C (by decide) dX11_edges_39 ?_
          refine g_put (pc := 40) C (T := TX11) inX11 0 rfl rfl 11 (by decide) q_244 rfl tyX11 tyX11_ok nmX11 rfl [(mo, .inr (15, [.ref e0, .ref c1, .ref c2, .ref c3, .ref c4, .ref c5, .null, .int (nI n), .int (nI z), .int sw, .int sd, .int 0])), (e0, aR k 3 6 (fun i9 => if i9 < 6 then some (er i9) else none)), ((er 0), aI k 6 (M 0)), ((er 1), aI k 6 (M 1)), ((er 2), aI k 6 (M 2)), ((er 3), aI k 6 (M 3)), ((er 4), aI k 6 (M 4)), ((er 5), aI k 6 (M 5))] (tyX11_ok 11 (by decide)) rfl (by rfl) (Nat.le_of_ble_eq_true rfl) rfl dX11_edges_40 ?_
          refine g_aload_n (pc := 43) C 0 rfl rfl dX11_edges_43 ?_
          refine g_get (pc := 44) C (T := TX11) inX11 0 rfl rfl 11 (by decide) q_244 rfl rfl dX11_edges_44 ?_
          refine g_if_le (pc := 47) C 52 (by decide) dX11_edges_47 (fun c_47 => ?_) (fun c_47 => ?_)
          · refine g_aload_n (pc := 52) C 0 rfl rfl dX11_edges_52 ?_
            refine g_get (pc := 53) C (T := TX11) inX11 0 rfl rfl 0 (by decide) q_256 rfl rfl dX11_edges_53 ?_
            refine g_iload_n (pc := 56) C 1 rfl rfl dX11_edges_56 ?_
            refine g_aald (pc := 57) C (j := v) (b := er v) 1 rfl (by omega) (by decide) rfl (if_pos (by omega)) dX11_edges_57 ?_
            refine g_iload_n (pc := 58) C 2 rfl rfl dX11_edges_58 ?_
            refine g_iald_n (pc := 59) (a := (er v)) (n := 6) (f := (M v)) C (j := w) (2 + v) (by rcases (show v = 0 ∨ v = 1 ∨ v = 2 ∨ v = 3 ∨ v = 4 ∨ v = 5 by omega) with h9 | h9 | h9 | h9 | h9 | h9 <;> rw [h9] <;> rfl) (by omega) (by first | decide | omega) rfl dX11_edges_59 ?_
            refine g_istore (pc := 60) C [(4, .int ((M v) w)), (0, .ref mo), (1, .int (nI v)), (2, .int (nI w)), (3, .int (nI y))] dX11_edges_60 (by decide) rfl ?_
            refine g_iload (pc := 62) C 0 rfl dX11_edges_62 ?_
            refine g_iload_n (pc := 64) C 4 rfl rfl dX11_edges_64 ?_
            refine g_icmp_ne (pc := 65) C 71 (by decide) dX11_edges_65 (fun c_65 => ?_) (fun c_65 => ?_)
            · refine g_aload_n (pc := 71) C 1 rfl rfl dX11_edges_71 ?_
              refine g_get (pc := 72) C (T := TX11) inX11 0 rfl rfl 0 (by decide) q_256 rfl rfl dX11_edges_72 ?_
              refine g_iload_n (pc := 75) C 2 rfl rfl dX11_edges_75 ?_
              refine g_aald (pc := 76) C (j := v) (b := er v) 1 rfl (by omega) (by decide) rfl (if_pos (by omega)) dX11_edges_76 ?_
              refine g_iload_n (pc := 77) C 3 rfl rfl dX11_edges_77 ?_
              refine g_iload_n (pc := 78) C 4 rfl rfl dX11_edges_78 ?_
              refine g_iast_n (pc := 79) (a := (er v)) (n := 6) (f := M v) C (j := w) (2 + v) [(mo, .inr (15, [.ref e0, .ref c1, .ref c2, .ref c3, .ref c4, .ref c5, .null, .int (nI n), .int (nI z), .int sw, .int sd, .int 0])), (e0, aR k 3 6 (fun i9 => if i9 < 6 then some (er i9) else none)), ((er 0), aI k 6 ((eU M v w (nI y)) 0)), ((er 1), aI k 6 ((eU M v w (nI y)) 1)), ((er 2), aI k 6 ((eU M v w (nI y)) 2)), ((er 3), aI k 6 ((eU M v w (nI y)) 3)), ((er 4), aI k 6 ((eU M v w (nI y)) 4)), ((er 5), aI k 6 ((eU M v w (nI y)) 5))] (by rcases (show v = 0 ∨ v = 1 ∨ v = 2 ∨ v = 3 ∨ v = 4 ∨ v = 5 by omega) with h9 | h9 | h9 | h9 | h9 | h9 <;> rw [h9] <;> rfl) (by omega) (by decide) rfl (by rcases (show v = 0 ∨ v = 1 ∨ v = 2 ∨ v = 3 ∨ v = 4 ∨ v = 5 by omega) with h9 | h9 | h9 | h9 | h9 | h9 <;> rw [h9] <;> rfl) dX11_edges_79 ?_
              refine g_aload_n (pc := 80) C 1 rfl rfl dX11_edges_80 ?_
              refine g_get (pc := 81) C (T := TX11) inX11 0 rfl rfl 0 (by decide) q_256 rfl rfl dX11_edges_81 ?_
              refine g_iload_n (pc := 84) C 3 rfl rfl dX11_edges_84 ?_
              refine g_aald (pc := 85) C (j := w) (b := er w) 1 rfl (by omega) (by decide) rfl (if_pos (by omega)) dX11_edges_85 ?_
              refine g_iload_n (pc := 86) C 2 rfl rfl dX11_edges_86 ?_
              refine g_iload_n (pc := 87) C 4 rfl rfl dX11_edges_87 ?_
              refine g_iast_n (pc := 88) (a := (er w)) (n := 6) (f := (eU M v w (nI y)) w) C (j := v) (2 + w) [(mo, .inr (15, [.ref e0, .ref c1, .ref c2, .ref c3, .ref c4, .ref c5, .null, .int (nI n), .int (nI z), .int sw, .int sd, .int 0])), (e0, aR k 3 6 (fun i9 => if i9 < 6 then some (er i9) else none)), ((er 0), aI k 6 ((eU (eU M v w (nI y)) w v (nI y)) 0)), ((er 1), aI k 6 ((eU (eU M v w (nI y)) w v (nI y)) 1)), ((er 2), aI k 6 ((eU (eU M v w (nI y)) w v (nI y)) 2)), ((er 3), aI k 6 ((eU (eU M v w (nI y)) w v (nI y)) 3)), ((er 4), aI k 6 ((eU (eU M v w (nI y)) w v (nI y)) 4)), ((er 5), aI k 6 ((eU (eU M v w (nI y)) w v (nI y)) 5))] (by rcases (show w = 0 ∨ w = 1 ∨ w = 2 ∨ w = 3 ∨ w = 4 ∨ w = 5 by omega) with h9 | h9 | h9 | h9 | h9 | h9 <;> rw [h9] <;> rfl) (by omega) (by decide) rfl (by rcases (show w = 0 ∨ w = 1 ∨ w = 2 ∨ w = 3 ∨ w = 4 ∨ w = 5 by omega) with h9 | h9 | h9 | h9 | h9 | h9 <;> rw [h9] <;> rfl) dX11_edges_88 ?_
              refine g_aload_n (pc := 89) C 1 rfl rfl dX11_edges_89 ?_
              refine g_callV (pc := 90) (cells := 0) (slots := 0) (g := 0) (As := []) (st := []) (T := TX11) (q0 := 0) C (nA := 0) rfl (c_X11_begin mo e0 c1 c2 c3 c4 c5 n z sw sd 0 ) q_268 q_269 q_267 q_247 q_266 (by decide +kernel) rfl rfl dX11_edges_90 ⟨Nat.le_of_ble_eq_true rfl, Nat.le_of_ble_eq_true rfl⟩ [0] [1, 2, 3, 4, 5, 6, 7] rfl (wr := [(e0, aR k 3 6 (fun i9 => if i9 < 6 then some (er i9) else none)), ((er 0), aI k 6 ((eU (eU M v w (nI y)) w v (nI y)) 0)), ((er 1), aI k 6 ((eU (eU M v w (nI y)) w v (nI y)) 1)), ((er 2), aI k 6 ((eU (eU M v w (nI y)) w v (nI y)) 2)), ((er 3), aI k 6 ((eU (eU M v w (nI y)) w v (nI y)) 3)), ((er 4), aI k 6 ((eU (eU M v w (nI y)) w v (nI y)) 4)), ((er 5), aI k 6 ((eU (eU M v w (nI y)) w v (nI y)) 5))]) rfl (by decide) (by decide) (by decide) (Nat.le_of_ble_eq_true rfl) ⟨Nat.le_of_ble_eq_true rfl, Nat.le_of_ble_eq_true rfl⟩ (fun rv w1 h1 => ?_)
              obtain ⟨rfl, q1, q2, q3, q4, q5, rfl⟩ := h1
              refine G.aft [7, 0, 1, 2, 3, 4, 5, 6, 8, 9, 10, 11, 12] (ws' := [(mo, .inr (15, [.ref e0, .ref q1, .ref q2, .ref q3, .ref q4, .ref q5, .null, .int (nI n), .int (nI z), .int 0, .int sd, .int 0])), (e0, aR k 3 6 (fun i9 => if i9 < 6 then some (er i9) else none)), ((er 0), aI k 6 ((eU (eU M v w (nI y)) w v (nI y)) 0)), ((er 1), aI k 6 ((eU (eU M v w (nI y)) w v (nI y)) 1)), ((er 2), aI k 6 ((eU (eU M v w (nI y)) w v (nI y)) 2)), ((er 3), aI k 6 ((eU (eU M v w (nI y)) w v (nI y)) 3)), ((er 4), aI k 6 ((eU (eU M v w (nI y)) w v (nI y)) 4)), ((er 5), aI k 6 ((eU (eU M v w (nI y)) w v (nI y)) 5)), (q1, aI k 6 (fun _ => 0)), (q2, aI k 6 (fun _ => 0)), (q3, aI k 6 (fun _ => 0)), (q4, aI k 6 (fun _ => 0)), (q5, aI k 6 (fun _ => 0))]) (st' := []) (cells' := 5) (slots' := 30) (g' := 5) (by decide) rfl rfl rfl rfl rfl ?_
              refine g_iload (pc := 93) C 0 rfl dX11_edges_93 ?_
              exact g_iret (pc := 95) C hr hlk (by first | decide | omega) (by first | decide | omega) (by first | decide | omega) dX11_edges_95 ⟨rfl, q1, q2, q3, q4, q5, rfl⟩
            · exact absurd c_65 hch
          · exact absurd (show (0 : Int32) ≤ 0 by decide) c_47
        · exact absurd c_32 (by rw [bI_0, show inR (nI y) 0 3 = true from inR_y (a := 0) (b := 3) (by omega) hy (by omega)]; decide)
    · exact absurd c_14 (by simp [bI_0, hw])
set_option maxRecDepth 100000 in
set_option maxHeartbeats 400000 in
theorem c_X11_put {l : Launch} {D : va_G} {k : Nat → ClassId} (mo : Nat) (e0 : Nat) (c1 : Nat) (c2 : Nat) (c3 : Nat) (c4 : Nat) (c5 : Nat) (n : Nat) (z : Nat) (sw : Int32) (sd : Int32) (th : Int32) (f : Nat → Int32) (v : Nat) (y : Nat) (hn : n ≤ 6) (hv : v < n) (hz : z < 6) (hvz : ¬ v = z) (hy1 : 1 ≤ y) (hy2 : y ≤ 200) (hs : f v + nI y ≤ 2000) : CM l D k yX11_put cX11_put 3 (some .int)  2 43 [.ref mo, .int (nI v), .int (nI y)] [(mo, .inr (15, [.ref e0, .ref c1, .ref c2, .ref c3, .ref c4, .ref c5, .null, .int (nI n), .int (nI z), .int sw, .int sd, .int th])), (c1, aI k 6 f)] (is1 (some (.int (f v + nI y))) [(mo, .inr (15, [.ref e0, .ref c1, .ref c2, .ref c3, .ref c4, .ref c5, .null, .int (nI n), .int (nI z), .int sw, .int sd, .int 0])), (c1, aI k 6 (upd f v (f v + nI y)))]) 0 0 0 := by
  refine CM.of (lv0 := [(0, .ref mo), (1, .int (nI v)), (2, .int (nI y))]) (by decide +kernel) (Nat.le_of_ble_eq_true rfl) rfl ?_
  intro p e s m below meth c C hr hlk hin had
  refine g_aload_n (pc := 0) C 0 rfl rfl dX11_put_0 ?_
  refine g_aload_n (pc := 1) C 0 rfl rfl dX11_put_1 ?_
  refine g_iload_n (pc := 2) C 1 rfl rfl dX11_put_2 ?_
  refine g_callV (pc := 3) (cells := 0) (slots := 0) (g := 0) (As := [.int (nI v)]) (st := [.ref mo]) (T := TX11) (q0 := 0) C (nA := 1) rfl (c_X11_isVertex mo e0 c1 c2 c3 c4 c5 n z sw sd th v (by first | assumption | decide | omega) (by first | assumption | decide | omega)) q_272 q_273 q_271 q_247 q_270 (by decide +kernel) rfl rfl dX11_put_3 ⟨Nat.le_of_ble_eq_true rfl, Nat.le_of_ble_eq_true rfl⟩ [0] [1] rfl (wr := [(c1, aI k 6 f)]) rfl (by decide) (by decide) (by decide) (Nat.le_of_ble_eq_true rfl) ⟨Nat.le_of_ble_eq_true rfl, Nat.le_of_ble_eq_true rfl⟩ (fun rv w1 h1 => ?_)
  obtain ⟨rfl, rfl⟩ := h1
  refine G.aft [1, 0] (ws' := [(mo, .inr (15, [.ref e0, .ref c1, .ref c2, .ref c3, .ref c4, .ref c5, .null, .int (nI n), .int (nI z), .int sw, .int sd, .int th])), (c1, aI k 6 f)]) (st' := [.int (bI (decide (v < n))), .ref mo]) (cells' := 0) (slots' := 0) (g' := 0) (by decide) rfl rfl rfl rfl rfl ?_
  refine g_if_ne (pc := 6) C 13 (by decide) dX11_put_6 (fun c_6 => ?_) (fun c_6 => ?_)
  · refine g_iload_n (pc := 13) C 2 rfl rfl dX11_put_13 ?_
    refine g_iconst (pc := 14) (v := 1) C (by decide) dX11_put_14 ?_
    refine g_sipush (pc := 15) (v := 200) C (by decide) dX11_put_15 ?_
    refine g_callS (pc := 18) (cells := 0) (slots := 0) (g := 0) (As := [.int (nI y), .int 1, .int 200]) (st := [.ref mo]) (b := 0) C (nA := 3) rfl (c_X11_in (nI y) 1 200 ) q_248 q_249 q_247 q_246 (by decide +kernel) dX11_put_18 ⟨Nat.le_of_ble_eq_true rfl, Nat.le_of_ble_eq_true rfl⟩ [] [0, 1] rfl (wr := [(mo, .inr (15, [.ref e0, .ref c1, .ref c2, .ref c3, .ref c4, .ref c5, .null, .int (nI n), .int (nI z), .int sw, .int sd, .int th])), (c1, aI k 6 f)]) rfl (by decide) (by decide) (by decide) (Nat.le_of_ble_eq_true rfl) ⟨Nat.le_of_ble_eq_true rfl, Nat.le_of_ble_eq_true rfl⟩ (fun rv w1 h1 => ?_)
    obtain ⟨rfl, rfl⟩ := h1
    refine G.aft [0, 1] (ws' := [(mo, .inr (15, [.ref e0, .ref c1, .ref c2, .ref c3, .ref c4, .ref c5, .null, .int (nI n), .int (nI z), .int sw, .int sd, .int th])), (c1, aI k 6 f)]) (st' := [.int (bI (inR (nI y) 1 200)), .ref mo]) (cells' := 0) (slots' := 0) (g' := 0) (by decide) rfl rfl rfl rfl rfl ?_
    refine g_if_ne (pc := 21) C 28 (by decide) dX11_put_21 (fun c_21 => ?_) (fun c_21 => ?_)
    · refine g_iload_n (pc := 28) C 1 rfl rfl dX11_put_28 ?_
      refine g_aload_n (pc := 29) C 0 rfl rfl dX11_put_29 ?_
      refine g_get (pc := 30) C (T := TX11) inX11 0 rfl rfl 8 (by decide) q_257 rfl rfl dX11_put_30 ?_
      refine g_icmp_eq (pc := 33) C 54 (by decide) dX11_put_33 (fun c_33 => ?_) (fun c_33 => ?_)
      · exact absurd ((nI_eq (by omega) (by omega)).mp c_33) hvz
      · refine g_aload_n (pc := 36) C 0 rfl rfl dX11_put_36 ?_
        refine g_get (pc := 37) C (T := TX11) inX11 0 rfl rfl 1 (by decide) q_250 rfl rfl dX11_put_37 ?_
        refine g_iload_n (pc := 40) C 1 rfl rfl dX11_put_40 ?_
        refine g_iald_n (pc := 41) C (j := v) 1 rfl (by omega) (by first | decide | omega) rfl dX11_put_41 ?_
        refine g_iload_n (pc := 42) C 2 rfl rfl dX11_put_42 ?_
        refine g_iadd (pc := 43) C dX11_put_43 ?_
        refine g_sipush (pc := 44) (v := 2000) C (by decide) dX11_put_44 ?_
        refine g_icmp_le (pc := 47) C 54 (by decide) dX11_put_47 (fun c_47 => ?_) (fun c_47 => ?_)
        · refine g_iconst (pc := 54) (v := 0) C (by decide) dX11_put_54 ?_
          refine g_put (pc := 55) C (T := TX11) inX11 0 rfl rfl 11 (by decide) q_244 rfl tyX11 tyX11_ok nmX11 rfl [(mo, .inr (15, [.ref e0, .ref c1, .ref c2, .ref c3, .ref c4, .ref c5, .null, .int (nI n), .int (nI z), .int sw, .int sd, .int 0])), (c1, aI k 6 f)] (tyX11_ok 11 (by decide)) rfl (by rfl) (Nat.le_of_ble_eq_true rfl) rfl dX11_put_55 ?_
          refine g_aload_n (pc := 58) C 0 rfl rfl dX11_put_58 ?_
          refine g_get (pc := 59) C (T := TX11) inX11 0 rfl rfl 11 (by decide) q_244 rfl rfl dX11_put_59 ?_
          refine g_if_le (pc := 62) C 67 (by decide) dX11_put_62 (fun c_62 => ?_) (fun c_62 => ?_)
          · refine g_iload_n (pc := 67) C 1 rfl rfl dX11_put_67 ?_
            refine g_aload_n (pc := 68) C 0 rfl rfl dX11_put_68 ?_
            refine g_get (pc := 69) C (T := TX11) inX11 0 rfl rfl 8 (by decide) q_257 rfl rfl dX11_put_69 ?_
            refine g_icmp_ne (pc := 72) C 87 (by decide) dX11_put_72 (fun c_72 => ?_) (fun c_72 => ?_)
            · refine g_aload_n (pc := 87) C 0 rfl rfl dX11_put_87 ?_
              refine g_get (pc := 88) C (T := TX11) inX11 0 rfl rfl 1 (by decide) q_250 rfl rfl dX11_put_88 ?_
              refine g_iload_n (pc := 91) C 1 rfl rfl dX11_put_91 ?_
              refine g_dup2 (pc := 92) C rfl rfl dX11_put_92 ?_
              refine g_iald_n (pc := 93) C (j := v) 1 rfl (by omega) (by first | decide | omega) rfl dX11_put_93 ?_
              refine g_iload_n (pc := 94) C 2 rfl rfl dX11_put_94 ?_
              refine g_iadd (pc := 95) C dX11_put_95 ?_
              refine g_iast_n (pc := 96) C (j := v) 1 [(mo, .inr (15, [.ref e0, .ref c1, .ref c2, .ref c3, .ref c4, .ref c5, .null, .int (nI n), .int (nI z), .int sw, .int sd, .int 0])), (c1, aI k 6 (upd f v ((f v) + (nI y))))] rfl (by omega) (by first | decide | omega) rfl rfl dX11_put_96 ?_
              refine g_aload_n (pc := 97) C 0 rfl rfl dX11_put_97 ?_
              refine g_get (pc := 98) C (T := TX11) inX11 0 rfl rfl 1 (by decide) q_250 rfl rfl dX11_put_98 ?_
              refine g_iload_n (pc := 101) C 1 rfl rfl dX11_put_101 ?_
              refine g_iald_n (pc := 102) C (j := v) 1 rfl (by omega) (by first | decide | omega) rfl dX11_put_102 ?_
              refine G.eqs (st' := [.int (f v + nI y)]) (congrArg (fun z9 => [Value.int z9]) (show (((upd f v ((f v) + (nI y))) v) : Int32) = (f v + nI y) from by simp [upd])) ?_
              exact g_iret (pc := 103) C hr hlk (by first | decide | omega) (by first | decide | omega) (by first | decide | omega) dX11_put_103 ⟨rfl, rfl⟩
            · exact absurd ((nI_eq (by omega) (by omega)).mp c_72) hvz
          · exact absurd (show (0 : Int32) ≤ 0 by decide) c_62
        · exact absurd hs c_47
    · exact absurd c_21 (by rw [bI_0, show inR (nI y) 1 200 = true from inR_y (a := 1) (b := 200) hy1 hy2 (by omega)]; decide)
  · exact absurd c_6 (by simp [bI_0, hv])
set_option maxRecDepth 100000 in
set_option maxHeartbeats 400000 in
theorem c_X11_reach_l {l : Launch} {D : va_G} {k : Nat → ClassId} (mo : Nat) (e0 : Nat) (c1 : Nat) (c2 : Nat) (c3 : Nat) (c4 : Nat) (c5 : Nat) (er : Nat → Nat) (n : Nat) (z : Nat) (sw : Int32) (sd : Int32) (th : Int32) (M : Nat → Nat → Int32) (rb : Nat) (g : Nat → Int32) (v : Nat) (hn : n ≤ 6) (hv : v < n) (hall : ∀ i, i < n → ¬ upd g v 1 i = 0) : CM l D k yX11_reach cX11_reach 4 none  0 0 [.ref mo, .int (nI v), .ref rb] [(mo, .inr (15, [.ref e0, .ref c1, .ref c2, .ref c3, .ref c4, .ref c5, .null, .int (nI n), .int (nI z), .int sw, .int sd, .int th])), (e0, aR k 3 6 (fun i9 => if i9 < 6 then some (er i9) else none)), ((er 0), aI k 6 (M 0)), ((er 1), aI k 6 (M 1)), ((er 2), aI k 6 (M 2)), ((er 3), aI k 6 (M 3)), ((er 4), aI k 6 (M 4)), ((er 5), aI k 6 (M 5)), (rb, aZ k 6 g)] (is1 none [(mo, .inr (15, [.ref e0, .ref c1, .ref c2, .ref c3, .ref c4, .ref c5, .null, .int (nI n), .int (nI z), .int sw, .int sd, .int th])), (e0, aR k 3 6 (fun i9 => if i9 < 6 then some (er i9) else none)), ((er 0), aI k 6 (M 0)), ((er 1), aI k 6 (M 1)), ((er 2), aI k 6 (M 2)), ((er 3), aI k 6 (M 3)), ((er 4), aI k 6 (M 4)), ((er 5), aI k 6 (M 5)), (rb, aZ k 6 (upd g v 1))]) 0 0 0 := by
  refine CM.of (lv0 := [(0, .ref mo), (1, .int (nI v)), (2, .ref rb)]) (by decide +kernel) (Nat.le_of_ble_eq_true rfl) rfl ?_
  intro p e s m below meth c C hr hlk hin had
  refine g_aload_n (pc := 0) C 2 rfl rfl dX11_reach_0 ?_
  refine g_iload_n (pc := 1) C 1 rfl rfl dX11_reach_1 ?_
  refine g_iconst (pc := 2) (v := 1) C (by decide) dX11_reach_2 ?_
  refine g_zast_n (pc := 3) C (j := v) 8 [(mo, .inr (15, [.ref e0, .ref c1, .ref c2, .ref c3, .ref c4, .ref c5, .null, .int (nI n), .int (nI z), .int sw, .int sd, .int th])), (e0, aR k 3 6 (fun i9 => if i9 < 6 then some (er i9) else none)), ((er 0), aI k 6 (M 0)), ((er 1), aI k 6 (M 1)), ((er 2), aI k 6 (M 2)), ((er 3), aI k 6 (M 3)), ((er 4), aI k 6 (M 4)), ((er 5), aI k 6 (M 5)), (rb, aZ k 6 (upd g v 1))] rfl (by omega) (by first | decide | omega) rfl (by first | exact bI_vp _ | rfl) rfl dX11_reach_3 ?_
  refine g_iconst (pc := 4) (v := 0) C (by decide) dX11_reach_4 ?_
  refine g_istore_n (pc := 5) C [(3, .int 0), (0, .ref mo), (1, .int (nI v)), (2, .ref rb)] rfl dX11_reach_5 (by decide) rfl ?_
  have key_6 : ∀ (fuel : Nat) (i : Nat), i ≤ n → n - i < fuel → G p l e { frames := 0, cells := 0, slots := 0, locals := 0 } s m ([.ref mo, .int (nI v), .ref rb] : List Value).toArray below meth c D 4 (va_A [(mo, .inr (15, [.ref e0, .ref c1, .ref c2, .ref c3, .ref c4, .ref c5, .null, .int (nI n), .int (nI z), .int sw, .int sd, .int th])), (e0, aR k 3 6 (fun i9 => if i9 < 6 then some (er i9) else none)), ((er 0), aI k 6 (M 0)), ((er 1), aI k 6 (M 1)), ((er 2), aI k 6 (M 2)), ((er 3), aI k 6 (M 3)), ((er 4), aI k 6 (M 4)), ((er 5), aI k 6 (M 5)), (rb, aZ k 6 g)] s.heap.size) (QM below D ([.ref mo, .int (nI v), .ref rb] : List Value).toArray s [(mo, .inr (15, [.ref e0, .ref c1, .ref c2, .ref c3, .ref c4, .ref c5, .null, .int (nI n), .int (nI z), .int sw, .int sd, .int th])), (e0, aR k 3 6 (fun i9 => if i9 < 6 then some (er i9) else none)), ((er 0), aI k 6 (M 0)), ((er 1), aI k 6 (M 1)), ((er 2), aI k 6 (M 2)), ((er 3), aI k 6 (M 3)), ((er 4), aI k 6 (M 4)), ((er 5), aI k 6 (M 5)), (rb, aZ k 6 g)] (is1 none [(mo, .inr (15, [.ref e0, .ref c1, .ref c2, .ref c3, .ref c4, .ref c5, .null, .int (nI n), .int (nI z), .int sw, .int sd, .int th])), (e0, aR k 3 6 (fun i9 => if i9 < 6 then some (er i9) else none)), ((er 0), aI k 6 (M 0)), ((er 1), aI k 6 (M 1)), ((er 2), aI k 6 (M 2)), ((er 3), aI k 6 (M 3)), ((er 4), aI k 6 (M 4)), ((er 5), aI k 6 (M 5)), (rb, aZ k 6 (upd g v 1))]) 0 0 0) [(mo, .inr (15, [.ref e0, .ref c1, .ref c2, .ref c3, .ref c4, .ref c5, .null, .int (nI n), .int (nI z), .int sw, .int sd, .int th])), (e0, aR k 3 6 (fun i9 => if i9 < 6 then some (er i9) else none)), ((er 0), aI k 6 (M 0)), ((er 1), aI k 6 (M 1)), ((er 2), aI k 6 (M 2)), ((er 3), aI k 6 (M 3)), ((er 4), aI k 6 (M 4)), ((er 5), aI k 6 (M 5)), (rb, aZ k 6 (upd g v 1))] [(0, .ref mo), (1, .int (nI v)), (2, .ref rb), (3, .int (nI i))] 0 0 0 6 [] := by
    intro fuel
    induction fuel with
    | zero => intro i hi hm; exact absurd hm (Nat.not_lt_zero _)
    | succ fuel ih =>
      intro i hi hm
      have ih_6 := ih
      refine g_iload_n (pc := 6) C 3 rfl rfl dX11_reach_6 ?_
      refine g_aload_n (pc := 7) C 0 rfl rfl dX11_reach_7 ?_
      refine g_get (pc := 8) C (T := TX11) inX11 0 rfl rfl 7 (by decide) q_245 rfl rfl dX11_reach_8 ?_
      refine g_icmp_ge (pc := 11) C 43 (by decide) dX11_reach_11 (fun c_11 => ?_) (fun c_11 => ?_)
      · exact g_vret (pc := 43) C hr hlk (by first | decide | omega) (by first | decide | omega) (by first | decide | omega) dX11_reach_43 ⟨rfl, rfl⟩
      · have hl11 : i < n := by rcases Nat.lt_or_ge i n with q | q; exact q; exact absurd (nI_le q (by omega)) c_11
        refine g_aload_n (pc := 14) C 0 rfl rfl dX11_reach_14 ?_
        refine g_get (pc := 15) C (T := TX11) inX11 0 rfl rfl 0 (by decide) q_256 rfl rfl dX11_reach_15 ?_
        refine g_iload_n (pc := 18) C 1 rfl rfl dX11_reach_18 ?_
        refine g_aald (pc := 19) C (j := v) (b := er v) 1 rfl (by omega) (by decide) rfl (if_pos (by omega)) dX11_reach_19 ?_
        refine g_iload_n (pc := 20) C 3 rfl rfl dX11_reach_20 ?_
        refine g_iald_n (pc := 21) (a := (er v)) (n := 6) (f := (M v)) C (j := i) (2 + v) (by rcases (show v = 0 ∨ v = 1 ∨ v = 2 ∨ v = 3 ∨ v = 4 ∨ v = 5 by omega) with h9 | h9 | h9 | h9 | h9 | h9 <;> rw [h9] <;> rfl) (by omega) (by first | decide | omega) rfl dX11_reach_21 ?_
        refine g_if_le (pc := 22) C 37 (by decide) dX11_reach_22 (fun c_22 => ?_) (fun c_22 => ?_)
        · refine g_iinc (pc := 37) (n := 1) (v := (nI (i + 1))) C 3 [(3, .int (nI (i + 1))), (0, .ref mo), (1, .int (nI v)), (2, .ref rb)] rfl (nI_1 i) dX11_reach_37 (by decide) rfl ?_
          refine g_goto (pc := 40) C 6 (by decide) dX11_reach_40 ?_
          refine G.loc [1, 2, 3, 0] (lv' := [(0, .ref mo), (1, .int (nI v)), (2, .ref rb), (3, .int (nI (i + 1)))]) rfl ?_
          exact ih_6 (i + 1) (by omega) (by omega)
        · refine g_aload_n (pc := 25) C 2 rfl rfl dX11_reach_25 ?_
          refine g_iload_n (pc := 26) C 3 rfl rfl dX11_reach_26 ?_
          refine g_zald_n (pc := 27) C (j := i) 8 rfl (by omega) (by first | decide | omega) rfl dX11_reach_27 ?_
          refine g_if_ne (pc := 28) C 37 (by decide) dX11_reach_28 (fun c_28 => ?_) (fun c_28 => ?_)
          · refine g_iinc (pc := 37) (n := 1) (v := (nI (i + 1))) C 3 [(3, .int (nI (i + 1))), (0, .ref mo), (1, .int (nI v)), (2, .ref rb)] rfl (nI_1 i) dX11_reach_37 (by decide) rfl ?_
            refine g_goto (pc := 40) C 6 (by decide) dX11_reach_40 ?_
            refine G.loc [1, 2, 3, 0] (lv' := [(0, .ref mo), (1, .int (nI v)), (2, .ref rb), (3, .int (nI (i + 1)))]) rfl ?_
            exact ih_6 (i + 1) (by omega) (by omega)
          · exact absurd c_28 (hall i hl11)
  refine G.loc [1, 2, 3, 0] (lv' := [(0, .ref mo), (1, .int (nI v)), (2, .ref rb), (3, .int 0)]) rfl ?_
  refine G.eql (lv' := [(0, .ref mo), (1, .int (nI v)), (2, .ref rb), (3, .int (nI 0))]) (congrArg (β := List (Nat × Value)) (fun z9 => [(0, .ref mo), (1, .int (nI v)), (2, .ref rb), (3, .int z9)]) (show (0 : Int32) = (nI 0) from by exact nI_0.symm)) ?_
  exact key_6 (n - 0 + 1) 0 (by omega) (Nat.lt_succ_self _)
/-- two vertices, one edge: what is reached, step by step -/
def rG (i : Nat) : Nat → Int32 := if i ≤ 1 then upd (fun _ => 0) 0 1 else upd (upd (fun _ => 0) 0 1) 1 1
theorem rG_2 {j : Nat} (h : j < 2) : ¬ rG 2 j = 0 := by
  rcases (show j = 0 ∨ j = 1 by omega) with rfl | rfl <;> decide
set_option maxRecDepth 100000 in
set_option maxHeartbeats 400000 in
theorem c_X11_reach_0 {l : Launch} {D : va_G} {k : Nat → ClassId} (mo : Nat) (e0 : Nat) (c1 : Nat) (c2 : Nat) (c3 : Nat) (c4 : Nat) (c5 : Nat) (er : Nat → Nat) (z : Nat) (sw : Int32) (sd : Int32) (th : Int32) (M : Nat → Nat → Int32) (rb : Nat) (h00 : M 0 0 ≤ 0) (h01 : ¬ M 0 1 ≤ 0) : CM l D k yX11_reach cX11_reach 4 none  1 23 [.ref mo, .int (nI 0), .ref rb] [(mo, .inr (15, [.ref e0, .ref c1, .ref c2, .ref c3, .ref c4, .ref c5, .null, .int (nI 2), .int (nI z), .int sw, .int sd, .int th])), (e0, aR k 3 6 (fun i9 => if i9 < 6 then some (er i9) else none)), ((er 0), aI k 6 (M 0)), ((er 1), aI k 6 (M 1)), ((er 2), aI k 6 (M 2)), ((er 3), aI k 6 (M 3)), ((er 4), aI k 6 (M 4)), ((er 5), aI k 6 (M 5)), (rb, aZ k 6 (fun _ => 0))] (is1 none [(mo, .inr (15, [.ref e0, .ref c1, .ref c2, .ref c3, .ref c4, .ref c5, .null, .int (nI 2), .int (nI z), .int sw, .int sd, .int th])), (e0, aR k 3 6 (fun i9 => if i9 < 6 then some (er i9) else none)), ((er 0), aI k 6 (M 0)), ((er 1), aI k 6 (M 1)), ((er 2), aI k 6 (M 2)), ((er 3), aI k 6 (M 3)), ((er 4), aI k 6 (M 4)), ((er 5), aI k 6 (M 5)), (rb, aZ k 6 (rG 2))]) 0 0 0 := by
  refine CM.of (lv0 := [(0, .ref mo), (1, .int (nI 0)), (2, .ref rb)]) (by decide +kernel) (Nat.le_of_ble_eq_true rfl) rfl ?_
  intro p e s m below meth c C hr hlk hin had
  refine g_aload_n (pc := 0) C 2 rfl rfl dX11_reach_0 ?_
  refine g_iload_n (pc := 1) C 1 rfl rfl dX11_reach_1 ?_
  refine g_iconst (pc := 2) (v := 1) C (by decide) dX11_reach_2 ?_
  refine g_zast_n (pc := 3) C (j := 0) 8 [(mo, .inr (15, [.ref e0, .ref c1, .ref c2, .ref c3, .ref c4, .ref c5, .null, .int (nI 2), .int (nI z), .int sw, .int sd, .int th])), (e0, aR k 3 6 (fun i9 => if i9 < 6 then some (er i9) else none)), ((er 0), aI k 6 (M 0)), ((er 1), aI k 6 (M 1)), ((er 2), aI k 6 (M 2)), ((er 3), aI k 6 (M 3)), ((er 4), aI k 6 (M 4)), ((er 5), aI k 6 (M 5)), (rb, aZ k 6 (upd (fun _ => 0) 0 1))] rfl (by omega) (by first | decide | omega) rfl (by first | exact bI_vp _ | rfl) rfl dX11_reach_3 ?_
  refine g_iconst (pc := 4) (v := 0) C (by decide) dX11_reach_4 ?_
  refine g_istore_n (pc := 5) C [(3, .int 0), (0, .ref mo), (1, .int (nI 0)), (2, .ref rb)] rfl dX11_reach_5 (by decide) rfl ?_
  have key_6 : ∀ (fuel : Nat) (i : Nat), i ≤ 2 → 2 - i < fuel → G p l e { frames := 1, cells := 0, slots := 0, locals := 23 } s m ([.ref mo, .int (nI 0), .ref rb] : List Value).toArray below meth c D 4 (va_A [(mo, .inr (15, [.ref e0, .ref c1, .ref c2, .ref c3, .ref c4, .ref c5, .null, .int (nI 2), .int (nI z), .int sw, .int sd, .int th])), (e0, aR k 3 6 (fun i9 => if i9 < 6 then some (er i9) else none)), ((er 0), aI k 6 (M 0)), ((er 1), aI k 6 (M 1)), ((er 2), aI k 6 (M 2)), ((er 3), aI k 6 (M 3)), ((er 4), aI k 6 (M 4)), ((er 5), aI k 6 (M 5)), (rb, aZ k 6 (fun _ => 0))] s.heap.size) (QM below D ([.ref mo, .int (nI 0), .ref rb] : List Value).toArray s [(mo, .inr (15, [.ref e0, .ref c1, .ref c2, .ref c3, .ref c4, .ref c5, .null, .int (nI 2), .int (nI z), .int sw, .int sd, .int th])), (e0, aR k 3 6 (fun i9 => if i9 < 6 then some (er i9) else none)), ((er 0), aI k 6 (M 0)), ((er 1), aI k 6 (M 1)), ((er 2), aI k 6 (M 2)), ((er 3), aI k 6 (M 3)), ((er 4), aI k 6 (M 4)), ((er 5), aI k 6 (M 5)), (rb, aZ k 6 (fun _ => 0))] (is1 none [(mo, .inr (15, [.ref e0, .ref c1, .ref c2, .ref c3, .ref c4, .ref c5, .null, .int (nI 2), .int (nI z), .int sw, .int sd, .int th])), (e0, aR k 3 6 (fun i9 => if i9 < 6 then some (er i9) else none)), ((er 0), aI k 6 (M 0)), ((er 1), aI k 6 (M 1)), ((er 2), aI k 6 (M 2)), ((er 3), aI k 6 (M 3)), ((er 4), aI k 6 (M 4)), ((er 5), aI k 6 (M 5)), (rb, aZ k 6 (rG 2))]) 0 0 0) [(mo, .inr (15, [.ref e0, .ref c1, .ref c2, .ref c3, .ref c4, .ref c5, .null, .int (nI 2), .int (nI z), .int sw, .int sd, .int th])), (e0, aR k 3 6 (fun i9 => if i9 < 6 then some (er i9) else none)), ((er 0), aI k 6 (M 0)), ((er 1), aI k 6 (M 1)), ((er 2), aI k 6 (M 2)), ((er 3), aI k 6 (M 3)), ((er 4), aI k 6 (M 4)), ((er 5), aI k 6 (M 5)), (rb, aZ k 6 (rG i))] [(0, .ref mo), (1, .int (nI 0)), (2, .ref rb), (3, .int (nI i))] 0 0 0 6 [] := by
    intro fuel
    induction fuel with
    | zero => intro i hi hm; exact absurd hm (Nat.not_lt_zero _)
    | succ fuel ih =>
      intro i hi hm
      have ih_6 := ih
      refine g_iload_n (pc := 6) C 3 rfl rfl dX11_reach_6 ?_
      refine g_aload_n (pc := 7) C 0 rfl rfl dX11_reach_7 ?_
      refine g_get (pc := 8) C (T := TX11) inX11 0 rfl rfl 7 (by decide) q_245 rfl rfl dX11_reach_8 ?_
      refine g_icmp_ge (pc := 11) C 43 (by decide) dX11_reach_11 (fun c_11 => ?_) (fun c_11 => ?_)
      · refine G.fn (rG 2) 8 [(mo, .inr (15, [.ref e0, .ref c1, .ref c2, .ref c3, .ref c4, .ref c5, .null, .int (nI 2), .int (nI z), .int sw, .int sd, .int th])), (e0, aR k 3 6 (fun i9 => if i9 < 6 then some (er i9) else none)), ((er 0), aI k 6 (M 0)), ((er 1), aI k 6 (M 1)), ((er 2), aI k 6 (M 2)), ((er 3), aI k 6 (M 3)), ((er 4), aI k 6 (M 4)), ((er 5), aI k 6 (M 5)), (rb, aZ k 6 (rG 2))] rfl (fun j hj => by { have h3 : i = 2 := (by { rcases Nat.lt_or_ge i 2 with q | q; exact absurd c_11 (nI_ge q (by omega)); omega }); rw [h3] }) rfl ?_
        exact g_vret (pc := 43) C hr hlk (by first | decide | omega) (by first | decide | omega) (by first | decide | omega) dX11_reach_43 ⟨rfl, rfl⟩
      · have hl11 : i < 2 := by rcases Nat.lt_or_ge i 2 with q | q; exact q; exact absurd (nI_le q (by omega)) c_11
        refine g_aload_n (pc := 14) C 0 rfl rfl dX11_reach_14 ?_
        refine g_get (pc := 15) C (T := TX11) inX11 0 rfl rfl 0 (by decide) q_256 rfl rfl dX11_reach_15 ?_
        refine g_iload_n (pc := 18) C 1 rfl rfl dX11_reach_18 ?_
        refine g_aald (pc := 19) C (j := 0) (b := er 0) 1 rfl (by omega) (by decide) rfl (if_pos (by omega)) dX11_reach_19 ?_
        refine g_iload_n (pc := 20) C 3 rfl rfl dX11_reach_20 ?_
        refine g_iald_n (pc := 21) (a := (er 0)) (n := 6) (f := (M 0)) C (j := i) 2 rfl (by omega) (by first | decide | omega) rfl dX11_reach_21 ?_
        refine g_if_le (pc := 22) C 37 (by decide) dX11_reach_22 (fun c_22 => ?_) (fun c_22 => ?_)
        · have h5 : i = 0 := by { rcases (show i = 0 ∨ i = 1 by omega) with q | q; exact q; rw [q] at c_22; exact absurd c_22 h01 }
          refine g_iinc (pc := 37) (n := 1) (v := (nI (i + 1))) C 3 [(3, .int (nI (i + 1))), (0, .ref mo), (1, .int (nI 0)), (2, .ref rb)] rfl (nI_1 i) dX11_reach_37 (by decide) rfl ?_
          refine g_goto (pc := 40) C 6 (by decide) dX11_reach_40 ?_
          refine G.loc [1, 2, 3, 0] (lv' := [(0, .ref mo), (1, .int (nI 0)), (2, .ref rb), (3, .int (nI (i + 1)))]) rfl ?_
          refine G.fn (rG (i + 1)) 8 [(mo, .inr (15, [.ref e0, .ref c1, .ref c2, .ref c3, .ref c4, .ref c5, .null, .int (nI 2), .int (nI z), .int sw, .int sd, .int th])), (e0, aR k 3 6 (fun i9 => if i9 < 6 then some (er i9) else none)), ((er 0), aI k 6 (M 0)), ((er 1), aI k 6 (M 1)), ((er 2), aI k 6 (M 2)), ((er 3), aI k 6 (M 3)), ((er 4), aI k 6 (M 4)), ((er 5), aI k 6 (M 5)), (rb, aZ k 6 (rG (i + 1)))] rfl (fun j hj => by { rw [h5]; rfl }) rfl ?_
          exact ih_6 (i + 1) (by omega) (by omega)
        · have h5 : i = 1 := by { rcases (show i = 0 ∨ i = 1 by omega) with q | q; rw [q] at c_22; exact absurd h00 c_22; exact q }
          refine g_aload_n (pc := 25) C 2 rfl rfl dX11_reach_25 ?_
          refine g_iload_n (pc := 26) C 3 rfl rfl dX11_reach_26 ?_
          refine g_zald_n (pc := 27) C (j := i) 8 rfl (by omega) (by first | decide | omega) rfl dX11_reach_27 ?_
          refine g_if_ne (pc := 28) C 37 (by decide) dX11_reach_28 (fun c_28 => ?_) (fun c_28 => ?_)
          · exact absurd (show rG i i = 0 by rw [h5]; rfl) c_28
          · refine g_aload_n (pc := 31) C 0 rfl rfl dX11_reach_31 ?_
            refine g_iload_n (pc := 32) C 3 rfl rfl dX11_reach_32 ?_
            refine g_aload_n (pc := 33) C 2 rfl rfl dX11_reach_33 ?_
            refine g_callV (pc := 34) (cells := 0) (slots := 0) (g := 0) (As := [.int (nI i), .ref rb]) (st := []) (T := TX11) (q0 := 0) C (nA := 2) rfl (c_X11_reach_l mo e0 c1 c2 c3 c4 c5 er 2 z sw sd th M rb (rG i) i (by first | assumption | decide | omega) (by first | assumption | decide | omega) (by rw [h5]; intro j hj; rcases (show j = 0 ∨ j = 1 by omega) with q | q <;> rw [q] <;> decide)) q_276 q_277 q_275 q_247 q_274 (by decide +kernel) rfl rfl dX11_reach_34 ⟨Nat.le_of_ble_eq_true rfl, Nat.le_of_ble_eq_true rfl⟩ [0, 1, 2, 3, 4, 5, 6, 7, 8] [] rfl (wr := []) rfl (by decide) (by decide) (by decide) (Nat.le_of_ble_eq_true rfl) ⟨Nat.le_of_ble_eq_true rfl, Nat.le_of_ble_eq_true rfl⟩ (fun rv w1 h1 => ?_)
            obtain ⟨rfl, rfl⟩ := h1
            refine G.aft [0, 1, 2, 3, 4, 5, 6, 7, 8] (ws' := [(mo, .inr (15, [.ref e0, .ref c1, .ref c2, .ref c3, .ref c4, .ref c5, .null, .int (nI 2), .int (nI z), .int sw, .int sd, .int th])), (e0, aR k 3 6 (fun i9 => if i9 < 6 then some (er i9) else none)), ((er 0), aI k 6 (M 0)), ((er 1), aI k 6 (M 1)), ((er 2), aI k 6 (M 2)), ((er 3), aI k 6 (M 3)), ((er 4), aI k 6 (M 4)), ((er 5), aI k 6 (M 5)), (rb, aZ k 6 (upd (rG i) i 1))]) (st' := []) (cells' := 0) (slots' := 0) (g' := 0) (by decide) rfl rfl rfl rfl rfl ?_
            refine g_iinc (pc := 37) (n := 1) (v := (nI (i + 1))) C 3 [(3, .int (nI (i + 1))), (0, .ref mo), (1, .int (nI 0)), (2, .ref rb)] rfl (nI_1 i) dX11_reach_37 (by decide) rfl ?_
            refine g_goto (pc := 40) C 6 (by decide) dX11_reach_40 ?_
            refine G.loc [1, 2, 3, 0] (lv' := [(0, .ref mo), (1, .int (nI 0)), (2, .ref rb), (3, .int (nI (i + 1)))]) rfl ?_
            refine G.fn (rG (i + 1)) 8 [(mo, .inr (15, [.ref e0, .ref c1, .ref c2, .ref c3, .ref c4, .ref c5, .null, .int (nI 2), .int (nI z), .int sw, .int sd, .int th])), (e0, aR k 3 6 (fun i9 => if i9 < 6 then some (er i9) else none)), ((er 0), aI k 6 (M 0)), ((er 1), aI k 6 (M 1)), ((er 2), aI k 6 (M 2)), ((er 3), aI k 6 (M 3)), ((er 4), aI k 6 (M 4)), ((er 5), aI k 6 (M 5)), (rb, aZ k 6 (rG (i + 1)))] rfl (fun j hj => by { rw [h5]; rfl }) rfl ?_
            exact ih_6 (i + 1) (by omega) (by omega)
  refine G.loc [1, 2, 3, 0] (lv' := [(0, .ref mo), (1, .int (nI 0)), (2, .ref rb), (3, .int 0)]) rfl ?_
  refine G.fn (rG 0) 8 [(mo, .inr (15, [.ref e0, .ref c1, .ref c2, .ref c3, .ref c4, .ref c5, .null, .int (nI 2), .int (nI z), .int sw, .int sd, .int th])), (e0, aR k 3 6 (fun i9 => if i9 < 6 then some (er i9) else none)), ((er 0), aI k 6 (M 0)), ((er 1), aI k 6 (M 1)), ((er 2), aI k 6 (M 2)), ((er 3), aI k 6 (M 3)), ((er 4), aI k 6 (M 4)), ((er 5), aI k 6 (M 5)), (rb, aZ k 6 (rG 0))] rfl (fun j hj => by rfl) rfl ?_
  refine G.eql (lv' := [(0, .ref mo), (1, .int (nI 0)), (2, .ref rb), (3, .int (nI 0))]) (congrArg (β := List (Nat × Value)) (fun z9 => [(0, .ref mo), (1, .int (nI 0)), (2, .ref rb), (3, .int z9)]) (show (0 : Int32) = (nI 0) from by exact nI_0.symm)) ?_
  exact key_6 (2 - 0 + 1) 0 (by omega) (Nat.lt_succ_self _)
set_option maxRecDepth 100000 in
set_option maxHeartbeats 400000 in
theorem c_X11_whole_2 {l : Launch} {D : va_G} {k : Nat → ClassId} (mo : Nat) (e0 : Nat) (c1 : Nat) (c2 : Nat) (c3 : Nat) (c4 : Nat) (c5 : Nat) (er : Nat → Nat) (z : Nat) (sw : Int32) (sd : Int32) (th : Int32) (M : Nat → Nat → Int32) (h00 : M 0 0 ≤ 0) (h01 : ¬ M 0 1 ≤ 0) : CM l D k yX11_whole cX11_whole 3 (some .boolean)  2 46 [.ref mo] [(mo, .inr (15, [.ref e0, .ref c1, .ref c2, .ref c3, .ref c4, .ref c5, .null, .int (nI 2), .int (nI z), .int sw, .int sd, .int th])), (e0, aR k 3 6 (fun i9 => if i9 < 6 then some (er i9) else none)), ((er 0), aI k 6 (M 0)), ((er 1), aI k 6 (M 1)), ((er 2), aI k 6 (M 2)), ((er 3), aI k 6 (M 3)), ((er 4), aI k 6 (M 4)), ((er 5), aI k 6 (M 5))] (is1 (some (.int 1)) [(mo, .inr (15, [.ref e0, .ref c1, .ref c2, .ref c3, .ref c4, .ref c5, .null, .int (nI 2), .int (nI z), .int sw, .int sd, .int th])), (e0, aR k 3 6 (fun i9 => if i9 < 6 then some (er i9) else none)), ((er 0), aI k 6 (M 0)), ((er 1), aI k 6 (M 1)), ((er 2), aI k 6 (M 2)), ((er 3), aI k 6 (M 3)), ((er 4), aI k 6 (M 4)), ((er 5), aI k 6 (M 5))]) 1 6 1 := by
  refine CM.of (lv0 := [(0, .ref mo)]) (by decide +kernel) (Nat.le_of_ble_eq_true rfl) rfl ?_
  intro p e s m below meth c C hr hlk hin had
  refine g_aload_n (pc := 0) C 0 rfl rfl dX11_whole_0 ?_
  refine g_get (pc := 1) C (T := TX11) inX11 0 rfl rfl 7 (by decide) q_245 rfl rfl dX11_whole_1 ?_
  refine g_iconst (pc := 4) (v := 2) C (by decide) dX11_whole_4 ?_
  refine g_icmp_ge (pc := 5) C 10 (by decide) dX11_whole_5 (fun c_5 => ?_) (fun c_5 => ?_)
  · refine g_bipush (pc := 10) (v := 6) C (by decide) dX11_whole_10 ?_
    refine g_newZ (pc := 12) (cells := 0) (slots := 0) (g := 0) C 6 q_278 (by decide) (by decide) (Nat.le_of_ble_eq_true rfl) (Nat.le_of_ble_eq_true rfl) (Nat.le_of_ble_eq_true rfl) dX11_whole_12 (fun q1 => ?_)
    refine G.eqw (ws' := [(mo, .inr (15, [.ref e0, .ref c1, .ref c2, .ref c3, .ref c4, .ref c5, .null, .int (nI 2), .int (nI z), .int sw, .int sd, .int th])), (e0, aR k 3 6 (fun i9 => if i9 < 6 then some (er i9) else none)), ((er 0), aI k 6 (M 0)), ((er 1), aI k 6 (M 1)), ((er 2), aI k 6 (M 2)), ((er 3), aI k 6 (M 3)), ((er 4), aI k 6 (M 4)), ((er 5), aI k 6 (M 5)), (q1, aZ k 6 (fun _ => 0))]) rfl ?_
    refine g_astore_n (pc := 14) C [(1, .ref q1), (0, .ref mo)] rfl dX11_whole_14 (by decide) rfl ?_
    refine g_aload_n (pc := 15) C 1 rfl rfl dX11_whole_15 ?_
    refine g_iconst (pc := 16) (v := 0) C (by decide) dX11_whole_16 ?_
    refine G.eqs (st' := [.int (nI 0), .ref mo]) (congrArg (β := List Value) (fun z9 => [.int z9, .ref mo]) (show (0 : Int32) = (nI 0) from rfl)) ?_
    refine g_aload_n (pc := 17) C 0 rfl rfl dX11_whole_17 ?_
    refine g_callV (pc := 18) (cells := 1) (slots := 6) (g := 1) (As := [.int (nI 0), .ref q1]) (st := []) (T := TX11) (q0 := 0) C (nA := 2) rfl (c_X11_reach_0 mo e0 c1 c2 c3 c4 c5 er z sw sd th M q1 (by first | assumption | decide | omega) (by first | assumption | decide | omega)) q_276 q_277 q_275 q_247 q_274 (by decide +kernel) rfl rfl dX11_whole_18 ⟨Nat.le_of_ble_eq_true rfl, Nat.le_of_ble_eq_true rfl⟩ [0, 1, 2, 3, 4, 5, 6, 7, 8] [] rfl (wr := []) rfl (by decide) (by decide) (by decide) (Nat.le_of_ble_eq_true rfl) ⟨Nat.le_of_ble_eq_true rfl, Nat.le_of_ble_eq_true rfl⟩ (fun rv w1 h1 => ?_)
    obtain ⟨rfl, rfl⟩ := h1
    refine G.aft [0, 1, 2, 3, 4, 5, 6, 7, 8] (ws' := [(mo, .inr (15, [.ref e0, .ref c1, .ref c2, .ref c3, .ref c4, .ref c5, .null, .int (nI 2), .int (nI z), .int sw, .int sd, .int th])), (e0, aR k 3 6 (fun i9 => if i9 < 6 then some (er i9) else none)), ((er 0), aI k 6 (M 0)), ((er 1), aI k 6 (M 1)), ((er 2), aI k 6 (M 2)), ((er 3), aI k 6 (M 3)), ((er 4), aI k 6 (M 4)), ((er 5), aI k 6 (M 5)), (q1, aZ k 6 (rG 2))]) (st' := []) (cells' := 1) (slots' := 6) (g' := 1) (by decide) rfl rfl rfl rfl rfl ?_
    refine g_iconst (pc := 21) (v := 0) C (by decide) dX11_whole_21 ?_
    refine g_istore_n (pc := 22) C [(2, .int 0), (1, .ref q1), (0, .ref mo)] rfl dX11_whole_22 (by decide) rfl ?_
    have key_23 : ∀ (fuel : Nat) (i : Nat), i ≤ 2 → 2 - i < fuel → G p l e { frames := 2, cells := 1, slots := 6, locals := 46 } s m ([.ref mo] : List Value).toArray below meth c D 3 (va_A [(mo, .inr (15, [.ref e0, .ref c1, .ref c2, .ref c3, .ref c4, .ref c5, .null, .int (nI 2), .int (nI z), .int sw, .int sd, .int th])), (e0, aR k 3 6 (fun i9 => if i9 < 6 then some (er i9) else none)), ((er 0), aI k 6 (M 0)), ((er 1), aI k 6 (M 1)), ((er 2), aI k 6 (M 2)), ((er 3), aI k 6 (M 3)), ((er 4), aI k 6 (M 4)), ((er 5), aI k 6 (M 5))] s.heap.size) (QM below D ([.ref mo] : List Value).toArray s [(mo, .inr (15, [.ref e0, .ref c1, .ref c2, .ref c3, .ref c4, .ref c5, .null, .int (nI 2), .int (nI z), .int sw, .int sd, .int th])), (e0, aR k 3 6 (fun i9 => if i9 < 6 then some (er i9) else none)), ((er 0), aI k 6 (M 0)), ((er 1), aI k 6 (M 1)), ((er 2), aI k 6 (M 2)), ((er 3), aI k 6 (M 3)), ((er 4), aI k 6 (M 4)), ((er 5), aI k 6 (M 5))] (is1 (some (.int 1)) [(mo, .inr (15, [.ref e0, .ref c1, .ref c2, .ref c3, .ref c4, .ref c5, .null, .int (nI 2), .int (nI z), .int sw, .int sd, .int th])), (e0, aR k 3 6 (fun i9 => if i9 < 6 then some (er i9) else none)), ((er 0), aI k 6 (M 0)), ((er 1), aI k 6 (M 1)), ((er 2), aI k 6 (M 2)), ((er 3), aI k 6 (M 3)), ((er 4), aI k 6 (M 4)), ((er 5), aI k 6 (M 5))]) 1 6 1) [(mo, .inr (15, [.ref e0, .ref c1, .ref c2, .ref c3, .ref c4, .ref c5, .null, .int (nI 2), .int (nI z), .int sw, .int sd, .int th])), (e0, aR k 3 6 (fun i9 => if i9 < 6 then some (er i9) else none)), ((er 0), aI k 6 (M 0)), ((er 1), aI k 6 (M 1)), ((er 2), aI k 6 (M 2)), ((er 3), aI k 6 (M 3)), ((er 4), aI k 6 (M 4)), ((er 5), aI k 6 (M 5)), (q1, aZ k 6 (rG 2))] [(0, .ref mo), (1, .ref q1), (2, .int (nI i))] 1 6 1 23 [] := by
      intro fuel
      induction fuel with
      | zero => intro i hi hm; exact absurd hm (Nat.not_lt_zero _)
      | succ fuel ih =>
        intro i hi hm
        have ih_23 := ih
        refine g_iload_n (pc := 23) C 2 rfl rfl dX11_whole_23 ?_
        refine g_aload_n (pc := 24) C 0 rfl rfl dX11_whole_24 ?_
        refine g_get (pc := 25) C (T := TX11) inX11 0 rfl rfl 7 (by decide) q_245 rfl rfl dX11_whole_25 ?_
        refine g_icmp_ge (pc := 28) C 45 (by decide) dX11_whole_28 (fun c_28 => ?_) (fun c_28 => ?_)
        · refine g_iconst (pc := 45) (v := 1) C (by decide) dX11_whole_45 ?_
          refine G.re [0, 1, 2, 3, 4, 5, 6, 7] (ws' := [(mo, .inr (15, [.ref e0, .ref c1, .ref c2, .ref c3, .ref c4, .ref c5, .null, .int (nI 2), .int (nI z), .int sw, .int sd, .int th])), (e0, aR k 3 6 (fun i9 => if i9 < 6 then some (er i9) else none)), ((er 0), aI k 6 (M 0)), ((er 1), aI k 6 (M 1)), ((er 2), aI k 6 (M 2)), ((er 3), aI k 6 (M 3)), ((er 4), aI k 6 (M 4)), ((er 5), aI k 6 (M 5))]) (by decide) rfl ?_
          exact g_zret (pc := 46) C hr rfl hlk (by first | decide | omega) (by first | decide | omega) (by first | decide | omega) dX11_whole_46 ⟨rfl, rfl⟩
        · have hl28 : i < 2 := by rcases Nat.lt_or_ge i 2 with q | q; exact q; exact absurd (nI_le q (by omega)) c_28
          refine g_aload_n (pc := 31) C 1 rfl rfl dX11_whole_31 ?_
          refine g_iload_n (pc := 32) C 2 rfl rfl dX11_whole_32 ?_
          refine g_zald_n (pc := 33) C (j := i) 8 rfl (by omega) (by first | decide | omega) rfl dX11_whole_33 ?_
          refine g_if_ne (pc := 34) C 39 (by decide) dX11_whole_34 (fun c_34 => ?_) (fun c_34 => ?_)
          · refine g_iinc (pc := 39) (n := 1) (v := (nI (i + 1))) C 2 [(2, .int (nI (i + 1))), (0, .ref mo), (1, .ref q1)] rfl (nI_1 i) dX11_whole_39 (by decide) rfl ?_
            refine g_goto (pc := 42) C 23 (by decide) dX11_whole_42 ?_
            refine G.loc [1, 2, 0] (lv' := [(0, .ref mo), (1, .ref q1), (2, .int (nI (i + 1)))]) rfl ?_
            exact ih_23 (i + 1) (by omega) (by omega)
          · exact absurd c_34 (rG_2 hl28)
    refine G.loc [2, 1, 0] (lv' := [(0, .ref mo), (1, .ref q1), (2, .int 0)]) rfl ?_
    refine G.eql (lv' := [(0, .ref mo), (1, .ref q1), (2, .int (nI 0))]) (congrArg (β := List (Nat × Value)) (fun z9 => [(0, .ref mo), (1, .ref q1), (2, .int z9)]) (show (0 : Int32) = (nI 0) from by exact nI_0.symm)) ?_
    exact key_23 (2 - 0 + 1) 0 (by omega) (Nat.lt_succ_self _)
  · exact absurd (show nI 2 ≤ nI 2 from nI_le (by omega) (by omega)) c_5
set_option maxRecDepth 100000 in
set_option maxHeartbeats 400000 in
theorem c_X11_wrongWhole_2 {l : Launch} {D : va_G} {k : Nat → ClassId} (mo : Nat) (e0 : Nat) (c1 : Nat) (c2 : Nat) (c3 : Nat) (c4 : Nat) (c5 : Nat) (er : Nat → Nat) (z : Nat) (sw : Int32) (sd : Int32) (th : Int32) (M : Nat → Nat → Int32) (h00 : M 0 0 ≤ 0) (h01 : ¬ M 0 1 ≤ 0) : CM l D k yX11_wrongWhole cX11_wrongWhole 1 (some .int)  3 68 [.ref mo] [(mo, .inr (15, [.ref e0, .ref c1, .ref c2, .ref c3, .ref c4, .ref c5, .null, .int (nI 2), .int (nI z), .int sw, .int sd, .int th])), (e0, aR k 3 6 (fun i9 => if i9 < 6 then some (er i9) else none)), ((er 0), aI k 6 (M 0)), ((er 1), aI k 6 (M 1)), ((er 2), aI k 6 (M 2)), ((er 3), aI k 6 (M 3)), ((er 4), aI k 6 (M 4)), ((er 5), aI k 6 (M 5))] (is1 (some (.int 0)) [(mo, .inr (15, [.ref e0, .ref c1, .ref c2, .ref c3, .ref c4, .ref c5, .null, .int (nI 2), .int (nI z), .int sw, .int sd, .int 0])), (e0, aR k 3 6 (fun i9 => if i9 < 6 then some (er i9) else none)), ((er 0), aI k 6 (M 0)), ((er 1), aI k 6 (M 1)), ((er 2), aI k 6 (M 2)), ((er 3), aI k 6 (M 3)), ((er 4), aI k 6 (M 4)), ((er 5), aI k 6 (M 5))]) 1 6 1 := by
  refine CM.of (lv0 := [(0, .ref mo)]) (by decide +kernel) (Nat.le_of_ble_eq_true rfl) rfl ?_
  intro p e s m below meth c C hr hlk hin had
  refine g_aload_n (pc := 0) C 0 rfl rfl dX11_wrongWhole_0 ?_
  refine g_aload_n (pc := 1) C 0 rfl rfl dX11_wrongWhole_1 ?_
  refine g_callV (pc := 2) (cells := 0) (slots := 0) (g := 0) (As := []) (st := [.ref mo]) (T := TX11) (q0 := 0) C (nA := 0) rfl (c_X11_whole_2 mo e0 c1 c2 c3 c4 c5 er z sw sd th M (by first | assumption | decide | omega) (by first | assumption | decide | omega)) q_281 q_282 q_280 q_247 q_279 (by decide +kernel) rfl rfl dX11_wrongWhole_2 ⟨Nat.le_of_ble_eq_true rfl, Nat.le_of_ble_eq_true rfl⟩ [0, 1, 2, 3, 4, 5, 6, 7] [] rfl (wr := []) rfl (by decide) (by decide) (by decide) (Nat.le_of_ble_eq_true rfl) ⟨Nat.le_of_ble_eq_true rfl, Nat.le_of_ble_eq_true rfl⟩ (fun rv w1 h1 => ?_)
  obtain ⟨rfl, rfl⟩ := h1
  refine G.aft [0, 1, 2, 3, 4, 5, 6, 7] (ws' := [(mo, .inr (15, [.ref e0, .ref c1, .ref c2, .ref c3, .ref c4, .ref c5, .null, .int (nI 2), .int (nI z), .int sw, .int sd, .int th])), (e0, aR k 3 6 (fun i9 => if i9 < 6 then some (er i9) else none)), ((er 0), aI k 6 (M 0)), ((er 1), aI k 6 (M 1)), ((er 2), aI k 6 (M 2)), ((er 3), aI k 6 (M 3)), ((er 4), aI k 6 (M 4)), ((er 5), aI k 6 (M 5))]) (st' := [.int 1, .ref mo]) (cells' := 1) (slots' := 6) (g' := 1) (by decide) rfl rfl rfl rfl rfl ?_
  refine g_if_eq (pc := 5) C 12 (by decide) dX11_wrongWhole_5 (fun c_5 => ?_) (fun c_5 => ?_)
  · exact absurd c_5 (by decide)
  · refine g_iconst (pc := 8) (v := 0) C (by decide) dX11_wrongWhole_8 ?_
    refine g_goto (pc := 9) C 13 (by decide) dX11_wrongWhole_9 ?_
    refine g_put (pc := 13) C (T := TX11) inX11 0 rfl rfl 11 (by decide) q_244 rfl tyX11 tyX11_ok nmX11 rfl [(mo, .inr (15, [.ref e0, .ref c1, .ref c2, .ref c3, .ref c4, .ref c5, .null, .int (nI 2), .int (nI z), .int sw, .int sd, .int 0])), (e0, aR k 3 6 (fun i9 => if i9 < 6 then some (er i9) else none)), ((er 0), aI k 6 (M 0)), ((er 1), aI k 6 (M 1)), ((er 2), aI k 6 (M 2)), ((er 3), aI k 6 (M 3)), ((er 4), aI k 6 (M 4)), ((er 5), aI k 6 (M 5))] (tyX11_ok 11 (by decide)) rfl (by rfl) (Nat.le_of_ble_eq_true rfl) rfl dX11_wrongWhole_13 ?_
    refine g_aload_n (pc := 16) C 0 rfl rfl dX11_wrongWhole_16 ?_
    refine g_get (pc := 17) C (T := TX11) inX11 0 rfl rfl 11 (by decide) q_244 rfl rfl dX11_wrongWhole_17 ?_
    exact g_iret (pc := 20) C hr hlk (by first | decide | omega) (by first | decide | omega) (by first | decide | omega) dX11_wrongWhole_20 ⟨rfl, rfl⟩
/-- the reference's wave: who can, whether any, what then is -/
def rwA (z : Nat) (M : Nat → Nat → Int32) (f : Nat → Int32) : Nat → (Nat → Int32)
  | 0 => fun _ => 0
  | v + 1 => upd (rwA z M f v) v (bI (rCan z M f v))
def rwM (z : Nat) (M : Nat → Nat → Int32) (f : Nat → Int32) : Nat → Int32
  | 0 => 0
  | v + 1 => rwM z M f v ||| upd (rwA z M f v) v (bI (rCan z M f v)) v
def rwS (n : Nat) (M : Nat → Nat → Int32) (f A : Nat → Int32) : Nat → (Nat → Int32)
  | 0 => f
  | v + 1 => if A v = 0 then rwS n M f A v else rTp M 1 v (rwS n M f A v) n
def rwI (n z : Nat) (M : Nat → Nat → Int32) (f : Nat → Int32) : Nat → (Nat → Int32)
  | 0 => f
  | i + 1 => rwS n M (rwI n z M f i) (rwA z M (rwI n z M f i) n) n
def rwB (n z : Nat) (M : Nat → Nat → Int32) (f : Nat → Int32) : Nat → Int32
  | 0 => 1
  | i + 1 => rwM z M (rwI n z M f i) n
set_option maxRecDepth 100000 in
set_option maxHeartbeats 400000 in
theorem c_X11_waves_2 {l : Launch} {D : va_G} {k : Nat → ClassId} (mo : Nat) (e0 : Nat) (c1 : Nat) (c2 : Nat) (c3 : Nat) (c4 : Nat) (c5 : Nat) (er : Nat → Nat) (z : Nat) (sw : Int32) (sd : Int32) (th : Int32) (M : Nat → Nat → Int32) (f : Nat → Int32) (N : Nat) (h00 : M 0 0 ≤ 0) (h01 : ¬ M 0 1 ≤ 0) (hz : z < 6) (hN : N < 1000000) (hs1 : ∀ i, i < N → ¬ rwM z M (rwI 2 z M f i) 2 = 0) (hs2 : rwM z M (rwI 2 z M f N) 2 = 0) : CM l D k yX11_waves cX11_waves 6 (some .int)  4 88 [.ref mo] [(mo, .inr (15, [.ref e0, .ref c1, .ref c2, .ref c3, .ref c4, .ref c5, .null, .int (nI 2), .int (nI z), .int sw, .int sd, .int th])), (e0, aR k 3 6 (fun i9 => if i9 < 6 then some (er i9) else none)), ((er 0), aI k 6 (M 0)), ((er 1), aI k 6 (M 1)), ((er 2), aI k 6 (M 2)), ((er 3), aI k 6 (M 3)), ((er 4), aI k 6 (M 4)), ((er 5), aI k 6 (M 5)), (c1, aI k 6 f)] (is1 (some (.int (nI N))) [(mo, .inr (15, [.ref e0, .ref c1, .ref c2, .ref c3, .ref c4, .ref c5, .null, .int (nI 2), .int (nI z), .int sw, .int sd, .int 0])), (e0, aR k 3 6 (fun i9 => if i9 < 6 then some (er i9) else none)), ((er 0), aI k 6 (M 0)), ((er 1), aI k 6 (M 1)), ((er 2), aI k 6 (M 2)), ((er 3), aI k 6 (M 3)), ((er 4), aI k 6 (M 4)), ((er 5), aI k 6 (M 5)), (c1, aI k 6 f)]) (N + 3) (6 * (N + 3)) (N + 2) := by
  refine CM.of (lv0 := [(0, .ref mo)]) (by decide +kernel) (Nat.le_of_ble_eq_true rfl) rfl ?_
  intro p e s m below meth c C hr hlk hin had
  refine g_aload_n (pc := 0) C 0 rfl rfl dX11_waves_0 ?_
  refine g_callV (pc := 1) (cells := 0) (slots := 0) (g := 0) (As := []) (st := []) (T := TX11) (q0 := 0) C (nA := 0) rfl (c_X11_wrongWhole_2 mo e0 c1 c2 c3 c4 c5 er z sw sd th M (by first | assumption | decide | omega) (by first | assumption | decide | omega)) q_285 q_286 q_284 q_247 q_283 (by decide +kernel) rfl rfl dX11_waves_1 ⟨Nat.le_of_ble_eq_true rfl, Nat.le_of_ble_eq_true rfl⟩ [0, 1, 2, 3, 4, 5, 6, 7] [8] rfl (wr := [(c1, aI k 6 f)]) rfl (by decide) (by decide) (by decide) (Nat.le_of_ble_eq_true rfl) ⟨(by dsimp only; omega), (by dsimp only; omega)⟩ (fun rv w1 h1 => ?_)
  obtain ⟨rfl, rfl⟩ := h1
  refine G.aft [1, 2, 3, 4, 5, 6, 7, 8, 0] (ws' := [(mo, .inr (15, [.ref e0, .ref c1, .ref c2, .ref c3, .ref c4, .ref c5, .null, .int (nI 2), .int (nI z), .int sw, .int sd, .int 0])), (e0, aR k 3 6 (fun i9 => if i9 < 6 then some (er i9) else none)), ((er 0), aI k 6 (M 0)), ((er 1), aI k 6 (M 1)), ((er 2), aI k 6 (M 2)), ((er 3), aI k 6 (M 3)), ((er 4), aI k 6 (M 4)), ((er 5), aI k 6 (M 5)), (c1, aI k 6 f)]) (st' := [.int 0]) (cells' := 1) (slots' := 6) (g' := 1) (by decide) rfl rfl rfl rfl rfl ?_
  refine g_if_le (pc := 4) C 9 (by decide) dX11_waves_4 (fun c_4 => ?_) (fun c_4 => ?_)
  · refine g_aload_n (pc := 9) C 0 rfl rfl dX11_waves_9 ?_
    refine g_get (pc := 10) C (T := TX11) inX11 0 rfl rfl 1 (by decide) q_250 rfl rfl dX11_waves_10 ?_
    refine g_cloneI (pc := 13) (cells := 1) (slots := 6) (g := 1) C 8 rfl q_287 q_288 q_289 q_290 q_291 (Nat.le_of_ble_eq_true rfl) (Nat.le_of_ble_eq_true rfl) (by dsimp only; omega) (by dsimp only; omega) dX11_waves_13 (fun q1 => ?_)
    refine G.eqw (ws' := [(mo, .inr (15, [.ref e0, .ref c1, .ref c2, .ref c3, .ref c4, .ref c5, .null, .int (nI 2), .int (nI z), .int sw, .int sd, .int 0])), (e0, aR k 3 6 (fun i9 => if i9 < 6 then some (er i9) else none)), ((er 0), aI k 6 (M 0)), ((er 1), aI k 6 (M 1)), ((er 2), aI k 6 (M 2)), ((er 3), aI k 6 (M 3)), ((er 4), aI k 6 (M 4)), ((er 5), aI k 6 (M 5)), (c1, aI k 6 f), (q1, aI k 6 f)]) rfl ?_
    refine g_castI (pc := 16) C 9 rfl q_292 dX11_waves_16 ?_
    refine g_astore_n (pc := 19) C [(1, .ref q1), (0, .ref mo)] rfl dX11_waves_19 (by decide) rfl ?_
    refine g_iconst (pc := 20) (v := 0) C (by decide) dX11_waves_20 ?_
    refine g_istore_n (pc := 21) C [(2, .int 0), (1, .ref q1), (0, .ref mo)] rfl dX11_waves_21 (by decide) rfl ?_
    refine g_iconst (pc := 22) (v := 1) C (by decide) dX11_waves_22 ?_
    refine g_istore_n (pc := 23) C [(3, .int 1), (2, .int 0), (1, .ref q1), (0, .ref mo)] rfl dX11_waves_23 (by decide) rfl ?_
    have key_24 : ∀ (fuel : Nat) (j : Nat), j ≤ N + 1 → N + 1 - j < fuel → G p l e { frames := 4, cells := (N + 3), slots := (6 * (N + 3)), locals := 88 } s m ([.ref mo] : List Value).toArray below meth c D 6 (va_A [(mo, .inr (15, [.ref e0, .ref c1, .ref c2, .ref c3, .ref c4, .ref c5, .null, .int (nI 2), .int (nI z), .int sw, .int sd, .int th])), (e0, aR k 3 6 (fun i9 => if i9 < 6 then some (er i9) else none)), ((er 0), aI k 6 (M 0)), ((er 1), aI k 6 (M 1)), ((er 2), aI k 6 (M 2)), ((er 3), aI k 6 (M 3)), ((er 4), aI k 6 (M 4)), ((er 5), aI k 6 (M 5)), (c1, aI k 6 f)] s.heap.size) (QM below D ([.ref mo] : List Value).toArray s [(mo, .inr (15, [.ref e0, .ref c1, .ref c2, .ref c3, .ref c4, .ref c5, .null, .int (nI 2), .int (nI z), .int sw, .int sd, .int th])), (e0, aR k 3 6 (fun i9 => if i9 < 6 then some (er i9) else none)), ((er 0), aI k 6 (M 0)), ((er 1), aI k 6 (M 1)), ((er 2), aI k 6 (M 2)), ((er 3), aI k 6 (M 3)), ((er 4), aI k 6 (M 4)), ((er 5), aI k 6 (M 5)), (c1, aI k 6 f)] (is1 (some (.int (nI N))) [(mo, .inr (15, [.ref e0, .ref c1, .ref c2, .ref c3, .ref c4, .ref c5, .null, .int (nI 2), .int (nI z), .int sw, .int sd, .int 0])), (e0, aR k 3 6 (fun i9 => if i9 < 6 then some (er i9) else none)), ((er 0), aI k 6 (M 0)), ((er 1), aI k 6 (M 1)), ((er 2), aI k 6 (M 2)), ((er 3), aI k 6 (M 3)), ((er 4), aI k 6 (M 4)), ((er 5), aI k 6 (M 5)), (c1, aI k 6 f)]) (N + 3) (6 * (N + 3)) (N + 2)) [(mo, .inr (15, [.ref e0, .ref c1, .ref c2, .ref c3, .ref c4, .ref c5, .null, .int (nI 2), .int (nI z), .int sw, .int sd, .int 0])), (e0, aR k 3 6 (fun i9 => if i9 < 6 then some (er i9) else none)), ((er 0), aI k 6 (M 0)), ((er 1), aI k 6 (M 1)), ((er 2), aI k 6 (M 2)), ((er 3), aI k 6 (M 3)), ((er 4), aI k 6 (M 4)), ((er 5), aI k 6 (M 5)), (c1, aI k 6 f), (q1, aI k 6 (rwI 2 z M f j))] [(0, .ref mo), (1, .ref q1), (2, .int (nI (min j N))), (3, .int (rwB 2 z M f j))] (2 + j) (12 + 6 * j) (1 + j) 24 [] := by
      intro fuel
      induction fuel with
      | zero => intro j hj hm; exact absurd hm (Nat.not_lt_zero _)
      | succ fuel ih =>
        intro j hj hm
        have ih_24 := ih
        refine g_iload_n (pc := 24) C 3 rfl rfl dX11_waves_24 ?_
        refine g_if_eq (pc := 25) C 123 (by decide) dX11_waves_25 (fun c_25 => ?_) (fun c_25 => ?_)
        · have hj1 : j = N + 1 := by { rcases Nat.lt_or_ge j (N + 1) with q | q; { rcases j with _ | j; exact absurd c_25 (show ¬ (1 : Int32) = 0 by decide); exact absurd c_25 (hs1 j (by omega)) }; omega }
          refine g_iload_n (pc := 123) C 2 rfl rfl dX11_waves_123 ?_
          refine G.re [0, 1, 2, 3, 4, 5, 6, 7, 8] (ws' := [(mo, .inr (15, [.ref e0, .ref c1, .ref c2, .ref c3, .ref c4, .ref c5, .null, .int (nI 2), .int (nI z), .int sw, .int sd, .int 0])), (e0, aR k 3 6 (fun i9 => if i9 < 6 then some (er i9) else none)), ((er 0), aI k 6 (M 0)), ((er 1), aI k 6 (M 1)), ((er 2), aI k 6 (M 2)), ((er 3), aI k 6 (M 3)), ((er 4), aI k 6 (M 4)), ((er 5), aI k 6 (M 5)), (c1, aI k 6 f)]) (by decide) rfl ?_
          refine G.eqs (st' := [.int (nI N)]) (congrArg (fun z9 => [Value.int z9]) (show ((nI (min j N)) : Int32) = (nI N) from by rw [hj1, Nat.min_eq_right (by omega)])) ?_
          exact g_iret (pc := 124) C hr hlk (by first | decide | omega) (by first | decide | omega) (by first | decide | omega) dX11_waves_124 ⟨rfl, rfl⟩
        · have hjN : j ≤ N := by { rcases Nat.lt_or_ge j (N + 1) with q | q; omega; have h7 : j = N + 1 := (by omega); subst h7; exact absurd hs2 c_25 }
          refine g_bipush (pc := 28) (v := 6) C (by decide) dX11_waves_28 ?_
          refine g_newZ (pc := 30) (cells := 2 + j) (slots := 12 + 6 * j) (g := 1 + j) C 6 q_278 (by decide) (by decide) (Nat.le_of_ble_eq_true rfl) (by dsimp only; omega) (by dsimp only; omega) dX11_waves_30 (fun q2 => ?_)
          refine G.eqw (ws' := [(mo, .inr (15, [.ref e0, .ref c1, .ref c2, .ref c3, .ref c4, .ref c5, .null, .int (nI 2), .int (nI z), .int sw, .int sd, .int 0])), (e0, aR k 3 6 (fun i9 => if i9 < 6 then some (er i9) else none)), ((er 0), aI k 6 (M 0)), ((er 1), aI k 6 (M 1)), ((er 2), aI k 6 (M 2)), ((er 3), aI k 6 (M 3)), ((er 4), aI k 6 (M 4)), ((er 5), aI k 6 (M 5)), (c1, aI k 6 f), (q1, aI k 6 (rwI 2 z M f j)), (q2, aZ k 6 (fun _ => 0))]) rfl ?_
          refine g_astore (pc := 32) C [(4, .ref q2), (0, .ref mo), (1, .ref q1), (2, .int (nI (min j N))), (3, .int (rwB 2 z M f j))] dX11_waves_32 (by decide) rfl ?_
          refine g_iconst (pc := 34) (v := 0) C (by decide) dX11_waves_34 ?_
          refine g_istore_n (pc := 35) C [(3, .int 0), (4, .ref q2), (0, .ref mo), (1, .ref q1), (2, .int (nI (min j N)))] rfl dX11_waves_35 (by decide) rfl ?_
          refine g_iconst (pc := 36) (v := 0) C (by decide) dX11_waves_36 ?_
          refine g_istore (pc := 37) C [(5, .int 0), (3, .int 0), (4, .ref q2), (0, .ref mo), (1, .ref q1), (2, .int (nI (min j N)))] dX11_waves_37 (by decide) rfl ?_
          have key_39 : ∀ (fuel : Nat) (i : Nat), i ≤ 2 → 2 - i < fuel → G p l e { frames := 4, cells := (N + 3), slots := (6 * (N + 3)), locals := 88 } s m ([.ref mo] : List Value).toArray below meth c D 6 (va_A [(mo, .inr (15, [.ref e0, .ref c1, .ref c2, .ref c3, .ref c4, .ref c5, .null, .int (nI 2), .int (nI z), .int sw, .int sd, .int th])), (e0, aR k 3 6 (fun i9 => if i9 < 6 then some (er i9) else none)), ((er 0), aI k 6 (M 0)), ((er 1), aI k 6 (M 1)), ((er 2), aI k 6 (M 2)), ((er 3), aI k 6 (M 3)), ((er 4), aI k 6 (M 4)), ((er 5), aI k 6 (M 5)), (c1, aI k 6 f)] s.heap.size) (QM below D ([.ref mo] : List Value).toArray s [(mo, .inr (15, [.ref e0, .ref c1, .ref c2, .ref c3, .ref c4, .ref c5, .null, .int (nI 2), .int (nI z), .int sw, .int sd, .int th])), (e0, aR k 3 6 (fun i9 => if i9 < 6 then some (er i9) else none)), ((er 0), aI k 6 (M 0)), ((er 1), aI k 6 (M 1)), ((er 2), aI k 6 (M 2)), ((er 3), aI k 6 (M 3)), ((er 4), aI k 6 (M 4)), ((er 5), aI k 6 (M 5)), (c1, aI k 6 f)] (is1 (some (.int (nI N))) [(mo, .inr (15, [.ref e0, .ref c1, .ref c2, .ref c3, .ref c4, .ref c5, .null, .int (nI 2), .int (nI z), .int sw, .int sd, .int 0])), (e0, aR k 3 6 (fun i9 => if i9 < 6 then some (er i9) else none)), ((er 0), aI k 6 (M 0)), ((er 1), aI k 6 (M 1)), ((er 2), aI k 6 (M 2)), ((er 3), aI k 6 (M 3)), ((er 4), aI k 6 (M 4)), ((er 5), aI k 6 (M 5)), (c1, aI k 6 f)]) (N + 3) (6 * (N + 3)) (N + 2)) [(mo, .inr (15, [.ref e0, .ref c1, .ref c2, .ref c3, .ref c4, .ref c5, .null, .int (nI 2), .int (nI z), .int sw, .int sd, .int 0])), (e0, aR k 3 6 (fun i9 => if i9 < 6 then some (er i9) else none)), ((er 0), aI k 6 (M 0)), ((er 1), aI k 6 (M 1)), ((er 2), aI k 6 (M 2)), ((er 3), aI k 6 (M 3)), ((er 4), aI k 6 (M 4)), ((er 5), aI k 6 (M 5)), (c1, aI k 6 f), (q1, aI k 6 (rwI 2 z M f j)), (q2, aZ k 6 (rwA z M (rwI 2 z M f j) i))] [(0, .ref mo), (1, .ref q1), (2, .int (nI (min j N))), (3, .int (rwM z M (rwI 2 z M f j) i)), (4, .ref q2), (5, .int (nI i))] (2 + j + 1) (12 + 6 * j + 6) (1 + j + 1) 39 [] := by
            intro fuel
            induction fuel with
            | zero => intro i hi hm; exact absurd hm (Nat.not_lt_zero _)
            | succ fuel ih =>
              intro i hi hm
              have ih_39 := ih
              refine g_iload (pc := 39) C 5 rfl dX11_waves_39 ?_
              refine g_aload_n (pc := 41) C 0 rfl rfl dX11_waves_41 ?_
              refine g_get (pc := 42) C (T := TX11) inX11 0 rfl rfl 7 (by decide) q_245 rfl rfl dX11_waves_42 ?_
              refine g_icmp_ge (pc := 45) C 74 (by decide) dX11_waves_45 (fun c_45 => ?_) (fun c_45 => ?_)
              · have h39 : i = 2 := by { rcases Nat.lt_or_ge i 2 with q | q; exact absurd c_45 (nI_ge q (by omega)); omega }
                refine g_iconst (pc := 74) (v := 0) C (by decide) dX11_waves_74 ?_
                refine g_istore (pc := 75) C [(5, .int 0), (0, .ref mo), (1, .ref q1), (2, .int (nI (min j N))), (3, .int (rwM z M (rwI 2 z M f j) i)), (4, .ref q2)] dX11_waves_75 (by decide) rfl ?_
                have key_77 : ∀ (fuel : Nat) (u : Nat), u ≤ 2 → 2 - u < fuel → G p l e { frames := 4, cells := (N + 3), slots := (6 * (N + 3)), locals := 88 } s m ([.ref mo] : List Value).toArray below meth c D 6 (va_A [(mo, .inr (15, [.ref e0, .ref c1, .ref c2, .ref c3, .ref c4, .ref c5, .null, .int (nI 2), .int (nI z), .int sw, .int sd, .int th])), (e0, aR k 3 6 (fun i9 => if i9 < 6 then some (er i9) else none)), ((er 0), aI k 6 (M 0)), ((er 1), aI k 6 (M 1)), ((er 2), aI k 6 (M 2)), ((er 3), aI k 6 (M 3)), ((er 4), aI k 6 (M 4)), ((er 5), aI k 6 (M 5)), (c1, aI k 6 f)] s.heap.size) (QM below D ([.ref mo] : List Value).toArray s [(mo, .inr (15, [.ref e0, .ref c1, .ref c2, .ref c3, .ref c4, .ref c5, .null, .int (nI 2), .int (nI z), .int sw, .int sd, .int th])), (e0, aR k 3 6 (fun i9 => if i9 < 6 then some (er i9) else none)), ((er 0), aI k 6 (M 0)), ((er 1), aI k 6 (M 1)), ((er 2), aI k 6 (M 2)), ((er 3), aI k 6 (M 3)), ((er 4), aI k 6 (M 4)), ((er 5), aI k 6 (M 5)), (c1, aI k 6 f)] (is1 (some (.int (nI N))) [(mo, .inr (15, [.ref e0, .ref c1, .ref c2, .ref c3, .ref c4, .ref c5, .null, .int (nI 2), .int (nI z), .int sw, .int sd, .int 0])), (e0, aR k 3 6 (fun i9 => if i9 < 6 then some (er i9) else none)), ((er 0), aI k 6 (M 0)), ((er 1), aI k 6 (M 1)), ((er 2), aI k 6 (M 2)), ((er 3), aI k 6 (M 3)), ((er 4), aI k 6 (M 4)), ((er 5), aI k 6 (M 5)), (c1, aI k 6 f)]) (N + 3) (6 * (N + 3)) (N + 2)) [(mo, .inr (15, [.ref e0, .ref c1, .ref c2, .ref c3, .ref c4, .ref c5, .null, .int (nI 2), .int (nI z), .int sw, .int sd, .int 0])), (e0, aR k 3 6 (fun i9 => if i9 < 6 then some (er i9) else none)), ((er 0), aI k 6 (M 0)), ((er 1), aI k 6 (M 1)), ((er 2), aI k 6 (M 2)), ((er 3), aI k 6 (M 3)), ((er 4), aI k 6 (M 4)), ((er 5), aI k 6 (M 5)), (c1, aI k 6 f), (q1, aI k 6 (rwS 2 M (rwI 2 z M f j) (rwA z M (rwI 2 z M f j) 2) u)), (q2, aZ k 6 (rwA z M (rwI 2 z M f j) 2))] [(0, .ref mo), (1, .ref q1), (2, .int (nI (min j N))), (3, .int (rwM z M (rwI 2 z M f j) 2)), (4, .ref q2), (5, .int (nI u))] (2 + j + 1) (12 + 6 * j + 6) (1 + j + 1) 77 [] := by
                  intro fuel
                  induction fuel with
                  | zero => intro u hu hm; exact absurd hm (Nat.not_lt_zero _)
                  | succ fuel ih =>
                    intro u hu hm
                    have ih_77 := ih
                    refine g_iload (pc := 77) C 5 rfl dX11_waves_77 ?_
                    refine g_aload_n (pc := 79) C 0 rfl rfl dX11_waves_79 ?_
                    refine g_get (pc := 80) C (T := TX11) inX11 0 rfl rfl 7 (by decide) q_245 rfl rfl dX11_waves_80 ?_
                    refine g_icmp_ge (pc := 83) C 108 (by decide) dX11_waves_83 (fun c_83 => ?_) (fun c_83 => ?_)
                    · have h77 : u = 2 := by { rcases Nat.lt_or_ge u 2 with q | q; exact absurd c_83 (nI_ge q (by omega)); omega }
                      refine g_iload_n (pc := 108) C 2 rfl rfl dX11_waves_108 ?_
                      refine g_iload_n (pc := 109) C 3 rfl rfl dX11_waves_109 ?_
                      refine g_if_eq (pc := 110) C 117 (by decide) dX11_waves_110 (fun c_110 => ?_) (fun c_110 => ?_)
                      · have h8 : j = N := by { rcases Nat.lt_or_ge j N with q | q; exact absurd c_110 (hs1 j q); omega }
                        have hmin : (nI (min j N) + 0 : Int32) = nI (min (j + 1) N) := by { rw [h8, Nat.min_self, Nat.min_eq_right (by omega)]; exact Int32.add_zero _ }
                        refine g_iconst (pc := 117) (v := 0) C (by decide) dX11_waves_117 ?_
                        refine g_iadd (pc := 118) C dX11_waves_118 ?_
                        refine g_istore_n (pc := 119) C [(2, .int ((nI (min j N)) + 0)), (0, .ref mo), (1, .ref q1), (3, .int (rwM z M (rwI 2 z M f j) 2)), (4, .ref q2), (5, .int (nI u))] rfl dX11_waves_119 (by decide) rfl ?_
                        refine g_goto (pc := 120) C 24 (by decide) dX11_waves_120 ?_
                        refine G.re [0, 1, 2, 3, 4, 5, 6, 7, 8, 9] (ws' := [(mo, .inr (15, [.ref e0, .ref c1, .ref c2, .ref c3, .ref c4, .ref c5, .null, .int (nI 2), .int (nI z), .int sw, .int sd, .int 0])), (e0, aR k 3 6 (fun i9 => if i9 < 6 then some (er i9) else none)), ((er 0), aI k 6 (M 0)), ((er 1), aI k 6 (M 1)), ((er 2), aI k 6 (M 2)), ((er 3), aI k 6 (M 3)), ((er 4), aI k 6 (M 4)), ((er 5), aI k 6 (M 5)), (c1, aI k 6 f), (q1, aI k 6 (rwS 2 M (rwI 2 z M f j) (rwA z M (rwI 2 z M f j) 2) u))]) (by decide) rfl ?_
                        refine G.loc [1, 2, 0, 3] (lv' := [(0, .ref mo), (1, .ref q1), (2, .int ((nI (min j N)) + 0)), (3, .int (rwM z M (rwI 2 z M f j) 2))]) rfl ?_
                        refine G.widen (k' := 2 + (j + 1)) (n' := 12 + 6 * (j + 1)) (g' := 1 + (j + 1)) (by omega) (by omega) (by omega) ?_
                        refine G.fn (rwI 2 z M f (j + 1)) 9 [(mo, .inr (15, [.ref e0, .ref c1, .ref c2, .ref c3, .ref c4, .ref c5, .null, .int (nI 2), .int (nI z), .int sw, .int sd, .int 0])), (e0, aR k 3 6 (fun i9 => if i9 < 6 then some (er i9) else none)), ((er 0), aI k 6 (M 0)), ((er 1), aI k 6 (M 1)), ((er 2), aI k 6 (M 2)), ((er 3), aI k 6 (M 3)), ((er 4), aI k 6 (M 4)), ((er 5), aI k 6 (M 5)), (c1, aI k 6 f), (q1, aI k 6 (rwI 2 z M f (j + 1)))] rfl (fun j hj => by first | rfl | (rw [h77]; rfl)) rfl ?_
                        refine G.eql (lv' := [(0, .ref mo), (1, .ref q1), (2, .int (nI (min (j + 1) N))), (3, .int (rwB 2 z M f (j + 1)))]) ((congrArg (β := List (Nat × Value)) (fun z9 => [(0, .ref mo), (1, .ref q1), (2, .int z9), (3, .int (rwM z M (rwI 2 z M f j) 2))]) (show (((nI (min j N)) + 0) : Int32) = (nI (min (j + 1) N)) from by first | rfl | exact hmin)).trans (congrArg (β := List (Nat × Value)) (fun z9 => [(0, .ref mo), (1, .ref q1), (2, .int (nI (min (j + 1) N))), (3, .int z9)]) (show ((rwM z M (rwI 2 z M f j) 2) : Int32) = (rwB 2 z M f (j + 1)) from by first | rfl | exact hmin))) ?_
                        exact ih_24 (j + 1) (by omega) (by omega)
                      · have h8 : j < N := by { rcases Nat.lt_or_ge j N with q | q; exact q; have h9 : j = N := (by omega); rw [h9] at c_110; exact absurd hs2 c_110 }
                        have hmin : (nI (min j N) + 1 : Int32) = nI (min (j + 1) N) := by { rw [Nat.min_eq_left (by omega), Nat.min_eq_left (by omega)]; exact nI_1 j }
                        refine g_iconst (pc := 113) (v := 1) C (by decide) dX11_waves_113 ?_
                        refine g_goto (pc := 114) C 118 (by decide) dX11_waves_114 ?_
                        refine g_iadd (pc := 118) C dX11_waves_118 ?_
                        refine g_istore_n (pc := 119) C [(2, .int ((nI (min j N)) + 1)), (0, .ref mo), (1, .ref q1), (3, .int (rwM z M (rwI 2 z M f j) 2)), (4, .ref q2), (5, .int (nI u))] rfl dX11_waves_119 (by decide) rfl ?_
                        refine g_goto (pc := 120) C 24 (by decide) dX11_waves_120 ?_
                        refine G.re [0, 1, 2, 3, 4, 5, 6, 7, 8, 9] (ws' := [(mo, .inr (15, [.ref e0, .ref c1, .ref c2, .ref c3, .ref c4, .ref c5, .null, .int (nI 2), .int (nI z), .int sw, .int sd, .int 0])), (e0, aR k 3 6 (fun i9 => if i9 < 6 then some (er i9) else none)), ((er 0), aI k 6 (M 0)), ((er 1), aI k 6 (M 1)), ((er 2), aI k 6 (M 2)), ((er 3), aI k 6 (M 3)), ((er 4), aI k 6 (M 4)), ((er 5), aI k 6 (M 5)), (c1, aI k 6 f), (q1, aI k 6 (rwS 2 M (rwI 2 z M f j) (rwA z M (rwI 2 z M f j) 2) u))]) (by decide) rfl ?_
                        refine G.loc [1, 2, 0, 3] (lv' := [(0, .ref mo), (1, .ref q1), (2, .int ((nI (min j N)) + 1)), (3, .int (rwM z M (rwI 2 z M f j) 2))]) rfl ?_
                        refine G.widen (k' := 2 + (j + 1)) (n' := 12 + 6 * (j + 1)) (g' := 1 + (j + 1)) (by omega) (by omega) (by omega) ?_
                        refine G.fn (rwI 2 z M f (j + 1)) 9 [(mo, .inr (15, [.ref e0, .ref c1, .ref c2, .ref c3, .ref c4, .ref c5, .null, .int (nI 2), .int (nI z), .int sw, .int sd, .int 0])), (e0, aR k 3 6 (fun i9 => if i9 < 6 then some (er i9) else none)), ((er 0), aI k 6 (M 0)), ((er 1), aI k 6 (M 1)), ((er 2), aI k 6 (M 2)), ((er 3), aI k 6 (M 3)), ((er 4), aI k 6 (M 4)), ((er 5), aI k 6 (M 5)), (c1, aI k 6 f), (q1, aI k 6 (rwI 2 z M f (j + 1)))] rfl (fun j hj => by first | rfl | (rw [h77]; rfl)) rfl ?_
                        refine G.eql (lv' := [(0, .ref mo), (1, .ref q1), (2, .int (nI (min (j + 1) N))), (3, .int (rwB 2 z M f (j + 1)))]) ((congrArg (β := List (Nat × Value)) (fun z9 => [(0, .ref mo), (1, .ref q1), (2, .int z9), (3, .int (rwM z M (rwI 2 z M f j) 2))]) (show (((nI (min j N)) + 1) : Int32) = (nI (min (j + 1) N)) from by first | rfl | exact hmin)).trans (congrArg (β := List (Nat × Value)) (fun z9 => [(0, .ref mo), (1, .ref q1), (2, .int (nI (min (j + 1) N))), (3, .int z9)]) (show ((rwM z M (rwI 2 z M f j) 2) : Int32) = (rwB 2 z M f (j + 1)) from by first | rfl | exact hmin))) ?_
                        exact ih_24 (j + 1) (by omega) (by omega)
                    · have hl83 : u < 2 := by rcases Nat.lt_or_ge u 2 with q | q; exact q; exact absurd (nI_le q (by omega)) c_83
                      refine g_aload (pc := 86) C 4 rfl dX11_waves_86 ?_
                      refine g_iload (pc := 88) C 5 rfl dX11_waves_88 ?_
                      refine g_zald_n (pc := 90) C (j := u) 10 rfl (by omega) (by first | decide | omega) rfl dX11_waves_90 ?_
                      refine g_if_eq (pc := 91) C 102 (by decide) dX11_waves_91 (fun c_91 => ?_) (fun c_91 => ?_)
                      · refine g_iinc (pc := 102) (n := 1) (v := (nI (u + 1))) C 5 [(5, .int (nI (u + 1))), (0, .ref mo), (1, .ref q1), (2, .int (nI (min j N))), (3, .int (rwM z M (rwI 2 z M f j) 2)), (4, .ref q2)] rfl (nI_1 u) dX11_waves_102 (by decide) rfl ?_
                        refine g_goto (pc := 105) C 77 (by decide) dX11_waves_105 ?_
                        refine G.loc [1, 2, 3, 4, 5, 0] (lv' := [(0, .ref mo), (1, .ref q1), (2, .int (nI (min j N))), (3, .int (rwM z M (rwI 2 z M f j) 2)), (4, .ref q2), (5, .int (nI (u + 1)))]) rfl ?_
                        refine G.fn (rwS 2 M (rwI 2 z M f j) (rwA z M (rwI 2 z M f j) 2) (u + 1)) 9 [(mo, .inr (15, [.ref e0, .ref c1, .ref c2, .ref c3, .ref c4, .ref c5, .null, .int (nI 2), .int (nI z), .int sw, .int sd, .int 0])), (e0, aR k 3 6 (fun i9 => if i9 < 6 then some (er i9) else none)), ((er 0), aI k 6 (M 0)), ((er 1), aI k 6 (M 1)), ((er 2), aI k 6 (M 2)), ((er 3), aI k 6 (M 3)), ((er 4), aI k 6 (M 4)), ((er 5), aI k 6 (M 5)), (c1, aI k 6 f), (q1, aI k 6 (rwS 2 M (rwI 2 z M f j) (rwA z M (rwI 2 z M f j) 2) (u + 1))), (q2, aZ k 6 (rwA z M (rwI 2 z M f j) 2))] rfl (fun j hj => by simp [rwS, c_91]) rfl ?_
                        exact ih_77 (u + 1) (by omega) (by omega)
                      · refine g_aload_n (pc := 94) C 0 rfl rfl dX11_waves_94 ?_
                        refine g_aload_n (pc := 95) C 1 rfl rfl dX11_waves_95 ?_
                        refine g_iload (pc := 96) C 5 rfl dX11_waves_96 ?_
                        refine g_iconst (pc := 98) (v := 1) C (by decide) dX11_waves_98 ?_
                        refine g_callV (pc := 99) (cells := 2 + j + 1) (slots := 12 + 6 * j + 6) (g := 1 + j + 1) (As := [.ref q1, .int (nI u), .int 1]) (st := []) (T := TX11) (q0 := 0) C (nA := 3) rfl (c_X11_topples mo e0 c1 c2 c3 c4 c5 er 2 z sw sd 0 M q1 (rwS 2 M (rwI 2 z M f j) (rwA z M (rwI 2 z M f j) 2) u) u 1 (by first | assumption | decide | omega) (by first | assumption | decide | omega)) q_295 q_296 q_294 q_247 q_293 (by decide +kernel) rfl rfl dX11_waves_99 ⟨Nat.le_of_ble_eq_true rfl, Nat.le_of_ble_eq_true rfl⟩ [0, 1, 2, 3, 4, 5, 6, 7, 9] [8, 10] rfl (wr := [(c1, aI k 6 f), (q2, aZ k 6 (rwA z M (rwI 2 z M f j) 2))]) rfl (by decide) (by decide) (by decide) (Nat.le_of_ble_eq_true rfl) ⟨(by dsimp only; omega), (by dsimp only; omega)⟩ (fun rv w1 h1 => ?_)
                        obtain ⟨rfl, rfl⟩ := h1
                        refine G.aft [2, 3, 4, 5, 6, 7, 8, 9, 0, 10, 1] (ws' := [(mo, .inr (15, [.ref e0, .ref c1, .ref c2, .ref c3, .ref c4, .ref c5, .null, .int (nI 2), .int (nI z), .int sw, .int sd, .int 0])), (e0, aR k 3 6 (fun i9 => if i9 < 6 then some (er i9) else none)), ((er 0), aI k 6 (M 0)), ((er 1), aI k 6 (M 1)), ((er 2), aI k 6 (M 2)), ((er 3), aI k 6 (M 3)), ((er 4), aI k 6 (M 4)), ((er 5), aI k 6 (M 5)), (c1, aI k 6 f), (q1, aI k 6 (rTp M 1 u (rwS 2 M (rwI 2 z M f j) (rwA z M (rwI 2 z M f j) 2) u) 2)), (q2, aZ k 6 (rwA z M (rwI 2 z M f j) 2))]) (st' := []) (cells' := 2 + j + 1) (slots' := 12 + 6 * j + 6) (g' := 1 + j + 1) (by decide) rfl rfl rfl rfl rfl ?_
                        refine g_iinc (pc := 102) (n := 1) (v := (nI (u + 1))) C 5 [(5, .int (nI (u + 1))), (0, .ref mo), (1, .ref q1), (2, .int (nI (min j N))), (3, .int (rwM z M (rwI 2 z M f j) 2)), (4, .ref q2)] rfl (nI_1 u) dX11_waves_102 (by decide) rfl ?_
                        refine g_goto (pc := 105) C 77 (by decide) dX11_waves_105 ?_
                        refine G.loc [1, 2, 3, 4, 5, 0] (lv' := [(0, .ref mo), (1, .ref q1), (2, .int (nI (min j N))), (3, .int (rwM z M (rwI 2 z M f j) 2)), (4, .ref q2), (5, .int (nI (u + 1)))]) rfl ?_
                        refine G.fn (rwS 2 M (rwI 2 z M f j) (rwA z M (rwI 2 z M f j) 2) (u + 1)) 9 [(mo, .inr (15, [.ref e0, .ref c1, .ref c2, .ref c3, .ref c4, .ref c5, .null, .int (nI 2), .int (nI z), .int sw, .int sd, .int 0])), (e0, aR k 3 6 (fun i9 => if i9 < 6 then some (er i9) else none)), ((er 0), aI k 6 (M 0)), ((er 1), aI k 6 (M 1)), ((er 2), aI k 6 (M 2)), ((er 3), aI k 6 (M 3)), ((er 4), aI k 6 (M 4)), ((er 5), aI k 6 (M 5)), (c1, aI k 6 f), (q1, aI k 6 (rwS 2 M (rwI 2 z M f j) (rwA z M (rwI 2 z M f j) 2) (u + 1))), (q2, aZ k 6 (rwA z M (rwI 2 z M f j) 2))] rfl (fun j hj => by simp [rwS, c_91]) rfl ?_
                        exact ih_77 (u + 1) (by omega) (by omega)
                refine G.loc [1, 2, 3, 4, 5, 0] (lv' := [(0, .ref mo), (1, .ref q1), (2, .int (nI (min j N))), (3, .int (rwM z M (rwI 2 z M f j) i)), (4, .ref q2), (5, .int 0)]) rfl ?_
                refine G.fn (rwS 2 M (rwI 2 z M f j) (rwA z M (rwI 2 z M f j) 2) 0) 9 [(mo, .inr (15, [.ref e0, .ref c1, .ref c2, .ref c3, .ref c4, .ref c5, .null, .int (nI 2), .int (nI z), .int sw, .int sd, .int 0])), (e0, aR k 3 6 (fun i9 => if i9 < 6 then some (er i9) else none)), ((er 0), aI k 6 (M 0)), ((er 1), aI k 6 (M 1)), ((er 2), aI k 6 (M 2)), ((er 3), aI k 6 (M 3)), ((er 4), aI k 6 (M 4)), ((er 5), aI k 6 (M 5)), (c1, aI k 6 f), (q1, aI k 6 (rwS 2 M (rwI 2 z M f j) (rwA z M (rwI 2 z M f j) 2) 0)), (q2, aZ k 6 (rwA z M (rwI 2 z M f j) i))] rfl (fun j hj => by first | rfl | (rw [h39])) rfl ?_
                refine G.fn (rwA z M (rwI 2 z M f j) 2) 10 [(mo, .inr (15, [.ref e0, .ref c1, .ref c2, .ref c3, .ref c4, .ref c5, .null, .int (nI 2), .int (nI z), .int sw, .int sd, .int 0])), (e0, aR k 3 6 (fun i9 => if i9 < 6 then some (er i9) else none)), ((er 0), aI k 6 (M 0)), ((er 1), aI k 6 (M 1)), ((er 2), aI k 6 (M 2)), ((er 3), aI k 6 (M 3)), ((er 4), aI k 6 (M 4)), ((er 5), aI k 6 (M 5)), (c1, aI k 6 f), (q1, aI k 6 (rwS 2 M (rwI 2 z M f j) (rwA z M (rwI 2 z M f j) 2) 0)), (q2, aZ k 6 (rwA z M (rwI 2 z M f j) 2))] rfl (fun j hj => by first | rfl | (rw [h39])) rfl ?_
                refine G.eql (lv' := [(0, .ref mo), (1, .ref q1), (2, .int (nI (min j N))), (3, .int (rwM z M (rwI 2 z M f j) 2)), (4, .ref q2), (5, .int (nI 0))]) ((congrArg (β := List (Nat × Value)) (fun z9 => [(0, .ref mo), (1, .ref q1), (2, .int (nI (min j N))), (3, .int z9), (4, .ref q2), (5, .int 0)]) (show ((rwM z M (rwI 2 z M f j) i) : Int32) = (rwM z M (rwI 2 z M f j) 2) from by first | rfl | exact nI_0.symm | (rw [h39]))).trans (congrArg (β := List (Nat × Value)) (fun z9 => [(0, .ref mo), (1, .ref q1), (2, .int (nI (min j N))), (3, .int (rwM z M (rwI 2 z M f j) 2)), (4, .ref q2), (5, .int z9)]) (show (0 : Int32) = (nI 0) from by first | rfl | exact nI_0.symm | (rw [h39])))) ?_
                exact key_77 (2 - 0 + 1) 0 (by omega) (Nat.lt_succ_self _)
              · have hl45 : i < 2 := by rcases Nat.lt_or_ge i 2 with q | q; exact q; exact absurd (nI_le q (by omega)) c_45
                refine g_aload (pc := 48) C 4 rfl dX11_waves_48 ?_
                refine g_iload (pc := 50) C 5 rfl dX11_waves_50 ?_
                refine g_aload_n (pc := 52) C 0 rfl rfl dX11_waves_52 ?_
                refine g_aload_n (pc := 53) C 1 rfl rfl dX11_waves_53 ?_
                refine g_iload (pc := 54) C 5 rfl dX11_waves_54 ?_
                refine g_callV (pc := 56) (cells := 2 + j + 1) (slots := 12 + 6 * j + 6) (g := 1 + j + 1) (As := [.ref q1, .int (nI i)]) (st := [.int (nI i), .ref q2]) (T := TX11) (q0 := 0) C (nA := 2) rfl (c_X11_can mo e0 c1 c2 c3 c4 c5 er 2 z sw sd 0 M q1 (rwI 2 z M f j) i (by first | assumption | decide | omega) (by first | assumption | decide | omega)) q_299 q_300 q_298 q_247 q_297 (by decide +kernel) rfl rfl dX11_waves_56 ⟨Nat.le_of_ble_eq_true rfl, Nat.le_of_ble_eq_true rfl⟩ [0, 1, 2, 3, 4, 5, 6, 7, 9] [8, 10] rfl (wr := [(c1, aI k 6 f), (q2, aZ k 6 (rwA z M (rwI 2 z M f j) i))]) rfl (by decide) (by decide) (by decide) (Nat.le_of_ble_eq_true rfl) ⟨(by dsimp only; omega), (by dsimp only; omega)⟩ (fun rv w1 h1 => ?_)
                obtain ⟨rfl, rfl⟩ := h1
                refine G.aft [2, 3, 4, 5, 6, 7, 8, 9, 0, 10, 1] (ws' := [(mo, .inr (15, [.ref e0, .ref c1, .ref c2, .ref c3, .ref c4, .ref c5, .null, .int (nI 2), .int (nI z), .int sw, .int sd, .int 0])), (e0, aR k 3 6 (fun i9 => if i9 < 6 then some (er i9) else none)), ((er 0), aI k 6 (M 0)), ((er 1), aI k 6 (M 1)), ((er 2), aI k 6 (M 2)), ((er 3), aI k 6 (M 3)), ((er 4), aI k 6 (M 4)), ((er 5), aI k 6 (M 5)), (c1, aI k 6 f), (q1, aI k 6 (rwI 2 z M f j)), (q2, aZ k 6 (rwA z M (rwI 2 z M f j) i))]) (st' := [.int (bI (rCan z M (rwI 2 z M f j) i)), .int (nI i), .ref q2]) (cells' := 2 + j + 1) (slots' := 12 + 6 * j + 6) (g' := 1 + j + 1) (by decide) rfl rfl rfl rfl rfl ?_
                refine g_zast_n (pc := 59) C (j := i) 10 [(mo, .inr (15, [.ref e0, .ref c1, .ref c2, .ref c3, .ref c4, .ref c5, .null, .int (nI 2), .int (nI z), .int sw, .int sd, .int 0])), (e0, aR k 3 6 (fun i9 => if i9 < 6 then some (er i9) else none)), ((er 0), aI k 6 (M 0)), ((er 1), aI k 6 (M 1)), ((er 2), aI k 6 (M 2)), ((er 3), aI k 6 (M 3)), ((er 4), aI k 6 (M 4)), ((er 5), aI k 6 (M 5)), (c1, aI k 6 f), (q1, aI k 6 (rwI 2 z M f j)), (q2, aZ k 6 (upd (rwA z M (rwI 2 z M f j) i) i (bI (rCan z M (rwI 2 z M f j) i))))] rfl (by omega) (by first | decide | omega) rfl (by first | exact bI_vp _ | rfl) rfl dX11_waves_59 ?_
                refine g_iload_n (pc := 60) C 3 rfl rfl dX11_waves_60 ?_
                refine g_aload (pc := 61) C 4 rfl dX11_waves_61 ?_
                refine g_iload (pc := 63) C 5 rfl dX11_waves_63 ?_
                refine g_zald_n (pc := 65) C (j := i) 10 rfl (by omega) (by first | decide | omega) rfl dX11_waves_65 ?_
                refine g_ior (pc := 66) C dX11_waves_66 ?_
                refine g_istore_n (pc := 67) C [(3, .int ((rwM z M (rwI 2 z M f j) i) ||| ((upd (rwA z M (rwI 2 z M f j) i) i (bI (rCan z M (rwI 2 z M f j) i))) i))), (0, .ref mo), (1, .ref q1), (2, .int (nI (min j N))), (4, .ref q2), (5, .int (nI i))] rfl dX11_waves_67 (by decide) rfl ?_
                refine g_iinc (pc := 68) (n := 1) (v := (nI (i + 1))) C 5 [(5, .int (nI (i + 1))), (3, .int ((rwM z M (rwI 2 z M f j) i) ||| ((upd (rwA z M (rwI 2 z M f j) i) i (bI (rCan z M (rwI 2 z M f j) i))) i))), (0, .ref mo), (1, .ref q1), (2, .int (nI (min j N))), (4, .ref q2)] rfl (nI_1 i) dX11_waves_68 (by decide) rfl ?_
                refine g_goto (pc := 71) C 39 (by decide) dX11_waves_71 ?_
                refine G.loc [2, 3, 4, 1, 5, 0] (lv' := [(0, .ref mo), (1, .ref q1), (2, .int (nI (min j N))), (3, .int ((rwM z M (rwI 2 z M f j) i) ||| ((upd (rwA z M (rwI 2 z M f j) i) i (bI (rCan z M (rwI 2 z M f j) i))) i))), (4, .ref q2), (5, .int (nI (i + 1)))]) rfl ?_
                refine G.fn (rwA z M (rwI 2 z M f j) (i + 1)) 10 [(mo, .inr (15, [.ref e0, .ref c1, .ref c2, .ref c3, .ref c4, .ref c5, .null, .int (nI 2), .int (nI z), .int sw, .int sd, .int 0])), (e0, aR k 3 6 (fun i9 => if i9 < 6 then some (er i9) else none)), ((er 0), aI k 6 (M 0)), ((er 1), aI k 6 (M 1)), ((er 2), aI k 6 (M 2)), ((er 3), aI k 6 (M 3)), ((er 4), aI k 6 (M 4)), ((er 5), aI k 6 (M 5)), (c1, aI k 6 f), (q1, aI k 6 (rwI 2 z M f j)), (q2, aZ k 6 (rwA z M (rwI 2 z M f j) (i + 1)))] rfl (fun j hj => by rfl) rfl ?_
                refine G.eql (lv' := [(0, .ref mo), (1, .ref q1), (2, .int (nI (min j N))), (3, .int (rwM z M (rwI 2 z M f j) (i + 1))), (4, .ref q2), (5, .int (nI (i + 1)))]) (congrArg (β := List (Nat × Value)) (fun z9 => [(0, .ref mo), (1, .ref q1), (2, .int (nI (min j N))), (3, .int z9), (4, .ref q2), (5, .int (nI (i + 1)))]) (show (((rwM z M (rwI 2 z M f j) i) ||| ((upd (rwA z M (rwI 2 z M f j) i) i (bI (rCan z M (rwI 2 z M f j) i))) i)) : Int32) = (rwM z M (rwI 2 z M f j) (i + 1)) from by rfl)) ?_
                exact ih_39 (i + 1) (by omega) (by omega)
          refine G.loc [3, 4, 5, 1, 2, 0] (lv' := [(0, .ref mo), (1, .ref q1), (2, .int (nI (min j N))), (3, .int 0), (4, .ref q2), (5, .int 0)]) rfl ?_
          refine G.fn (rwA z M (rwI 2 z M f j) 0) 10 [(mo, .inr (15, [.ref e0, .ref c1, .ref c2, .ref c3, .ref c4, .ref c5, .null, .int (nI 2), .int (nI z), .int sw, .int sd, .int 0])), (e0, aR k 3 6 (fun i9 => if i9 < 6 then some (er i9) else none)), ((er 0), aI k 6 (M 0)), ((er 1), aI k 6 (M 1)), ((er 2), aI k 6 (M 2)), ((er 3), aI k 6 (M 3)), ((er 4), aI k 6 (M 4)), ((er 5), aI k 6 (M 5)), (c1, aI k 6 f), (q1, aI k 6 (rwI 2 z M f j)), (q2, aZ k 6 (rwA z M (rwI 2 z M f j) 0))] rfl (fun j hj => by rfl) rfl ?_
          refine G.eql (lv' := [(0, .ref mo), (1, .ref q1), (2, .int (nI (min j N))), (3, .int (rwM z M (rwI 2 z M f j) 0)), (4, .ref q2), (5, .int (nI 0))]) ((congrArg (β := List (Nat × Value)) (fun z9 => [(0, .ref mo), (1, .ref q1), (2, .int (nI (min j N))), (3, .int z9), (4, .ref q2), (5, .int 0)]) (show (0 : Int32) = (rwM z M (rwI 2 z M f j) 0) from by first | rfl | exact nI_0.symm)).trans (congrArg (β := List (Nat × Value)) (fun z9 => [(0, .ref mo), (1, .ref q1), (2, .int (nI (min j N))), (3, .int (rwM z M (rwI 2 z M f j) 0)), (4, .ref q2), (5, .int z9)]) (show (0 : Int32) = (nI 0) from by first | rfl | exact nI_0.symm))) ?_
          exact key_39 (2 - 0 + 1) 0 (by omega) (Nat.lt_succ_self _)
    refine G.loc [3, 2, 1, 0] (lv' := [(0, .ref mo), (1, .ref q1), (2, .int 0), (3, .int 1)]) rfl ?_
    refine G.fn (rwI 2 z M f 0) 9 [(mo, .inr (15, [.ref e0, .ref c1, .ref c2, .ref c3, .ref c4, .ref c5, .null, .int (nI 2), .int (nI z), .int sw, .int sd, .int 0])), (e0, aR k 3 6 (fun i9 => if i9 < 6 then some (er i9) else none)), ((er 0), aI k 6 (M 0)), ((er 1), aI k 6 (M 1)), ((er 2), aI k 6 (M 2)), ((er 3), aI k 6 (M 3)), ((er 4), aI k 6 (M 4)), ((er 5), aI k 6 (M 5)), (c1, aI k 6 f), (q1, aI k 6 (rwI 2 z M f 0))] rfl (fun j hj => by rfl) rfl ?_
    refine G.eql (lv' := [(0, .ref mo), (1, .ref q1), (2, .int (nI (min 0 N))), (3, .int (rwB 2 z M f 0))]) ((congrArg (β := List (Nat × Value)) (fun z9 => [(0, .ref mo), (1, .ref q1), (2, .int z9), (3, .int 1)]) (show (0 : Int32) = (nI (min 0 N)) from by first | rfl | (rw [Nat.zero_min]; exact nI_0.symm))).trans (congrArg (β := List (Nat × Value)) (fun z9 => [(0, .ref mo), (1, .ref q1), (2, .int (nI (min 0 N))), (3, .int z9)]) (show (1 : Int32) = (rwB 2 z M f 0) from by first | rfl | (rw [Nat.zero_min]; exact nI_0.symm)))) ?_
    exact key_24 (N + 1 - 0 + 1) 0 (by omega) (Nat.lt_succ_self _)
  · exact absurd (show (0 : Int32) ≤ 0 by decide) c_4
end
section
theorem dL_vertex_0 : decode cL_vertex 0 = .ok (.aload_n 1, 1) := by decide +kernel
theorem dL_vertex_1 : decode cL_vertex 1 = .ok (.iconst 0, 1) := by decide +kernel
theorem dL_vertex_2 : decode cL_vertex 2 = .ok (.aload_n 0, 1) := by decide +kernel
theorem dL_vertex_3 : decode cL_vertex 3 = .ok (.invokevirtual 7, 3) := by decide +kernel
theorem q_301 : (Jvm.Cond.code ({ cls := "Chipfold", name := "vertex", desc := "()I" } : Jvm.MethodName) prog_1_method_2_code (2 : Nat) (Option.some Jvm.ClassFile.FieldType.int)) ∈ WG := wg_3 (List.mem_of_getElem? (i := 30) rfl) rfl
theorem q_302 : (Jvm.Cond.selects "Chipfold" ({ cls := "Chipfold", name := "vertex", desc := "()I" } : Jvm.MethodName) ({ cls := "Chipfold", name := "vertex", desc := "()I" } : Jvm.MethodName)) ∈ WG := wg_3 (List.mem_of_getElem? (i := 29) (by decide +kernel)) (by decide +kernel)
theorem q_303 : (Jvm.Cond.methodLink "ChipfoldLaw" (7 : Nat) ({ cls := "Chipfold", name := "vertex", desc := "()I" } : Jvm.MethodName)) ∈ WG := wg_3 (List.mem_of_getElem? (i := 27) (by decide +kernel)) (by decide +kernel)
theorem q_304 : (Jvm.Cond.instanceMethod ({ cls := "Chipfold", name := "vertex", desc := "()I" } : Jvm.MethodName)) ∈ WG := wg_3 (List.mem_of_getElem? (i := 28) (by decide +kernel)) (by decide +kernel)
theorem dL_vertex_6 : decode cL_vertex 6 = .ok (.i2l, 1) := by decide +kernel
theorem dL_vertex_7 : decode cL_vertex 7 = .ok (.lastore, 1) := by decide +kernel
theorem dL_vertex_8 : decode cL_vertex 8 = .ok (.goto 6, 3) := by decide +kernel
theorem dL_vertex_14 : decode cL_vertex 14 = .ok (.iconst 0, 1) := by decide +kernel
theorem dL_vertex_15 : decode cL_vertex 15 = .ok (.ireturn, 1) := by decide +kernel
theorem dL_edges_0 : decode cL_edges 0 = .ok (.aload 4, 2) := by decide +kernel
theorem dL_edges_2 : decode cL_edges 2 = .ok (.iconst 0, 1) := by decide +kernel
theorem dL_edges_3 : decode cL_edges 3 = .ok (.aload_n 0, 1) := by decide +kernel
theorem dL_edges_4 : decode cL_edges 4 = .ok (.iload_n 1, 1) := by decide +kernel
theorem dL_edges_5 : decode cL_edges 5 = .ok (.iload_n 2, 1) := by decide +kernel
theorem dL_edges_6 : decode cL_edges 6 = .ok (.iload_n 3, 1) := by decide +kernel
theorem dL_edges_7 : decode cL_edges 7 = .ok (.invokevirtual 15, 3) := by decide +kernel
theorem q_305 : (Jvm.Cond.code ({ cls := "Chipfold", name := "edges", desc := "(III)I" } : Jvm.MethodName) prog_1_method_3_code (5 : Nat) (Option.some Jvm.ClassFile.FieldType.int)) ∈ WG := wg_3 (List.mem_of_getElem? (i := 152) rfl) rfl
theorem q_306 : (Jvm.Cond.selects "Chipfold" ({ cls := "Chipfold", name := "edges", desc := "(III)I" } : Jvm.MethodName) ({ cls := "Chipfold", name := "edges", desc := "(III)I" } : Jvm.MethodName)) ∈ WG := wg_3 (List.mem_of_getElem? (i := 151) (by decide +kernel)) (by decide +kernel)
theorem q_307 : (Jvm.Cond.methodLink "ChipfoldLaw" (15 : Nat) ({ cls := "Chipfold", name := "edges", desc := "(III)I" } : Jvm.MethodName)) ∈ WG := wg_3 (List.mem_of_getElem? (i := 149) (by decide +kernel)) (by decide +kernel)
theorem q_308 : (Jvm.Cond.instanceMethod ({ cls := "Chipfold", name := "edges", desc := "(III)I" } : Jvm.MethodName)) ∈ WG := wg_3 (List.mem_of_getElem? (i := 150) (by decide +kernel)) (by decide +kernel)
theorem dL_edges_10 : decode cL_edges 10 = .ok (.i2l, 1) := by decide +kernel
theorem dL_edges_11 : decode cL_edges 11 = .ok (.lastore, 1) := by decide +kernel
theorem dL_edges_12 : decode cL_edges 12 = .ok (.goto 11, 3) := by decide +kernel
theorem dL_edges_23 : decode cL_edges 23 = .ok (.iconst 0, 1) := by decide +kernel
theorem dL_edges_24 : decode cL_edges 24 = .ok (.ireturn, 1) := by decide +kernel
theorem dL_put_0 : decode cL_put 0 = .ok (.aload_n 3, 1) := by decide +kernel
theorem dL_put_1 : decode cL_put 1 = .ok (.iconst 0, 1) := by decide +kernel
theorem dL_put_2 : decode cL_put 2 = .ok (.aload_n 0, 1) := by decide +kernel
theorem dL_put_3 : decode cL_put 3 = .ok (.iload_n 1, 1) := by decide +kernel
theorem dL_put_4 : decode cL_put 4 = .ok (.iload_n 2, 1) := by decide +kernel
theorem dL_put_5 : decode cL_put 5 = .ok (.invokevirtual 30, 3) := by decide +kernel
theorem q_309 : (Jvm.Cond.code ({ cls := "Chipfold", name := "put", desc := "(II)I" } : Jvm.MethodName) prog_1_method_7_code (3 : Nat) (Option.some Jvm.ClassFile.FieldType.int)) ∈ WG := wg_3 (List.mem_of_getElem? (i := 229) rfl) rfl
theorem q_310 : (Jvm.Cond.selects "Chipfold" ({ cls := "Chipfold", name := "put", desc := "(II)I" } : Jvm.MethodName) ({ cls := "Chipfold", name := "put", desc := "(II)I" } : Jvm.MethodName)) ∈ WG := wg_3 (List.mem_of_getElem? (i := 228) (by decide +kernel)) (by decide +kernel)
theorem q_311 : (Jvm.Cond.methodLink "ChipfoldLaw" (30 : Nat) ({ cls := "Chipfold", name := "put", desc := "(II)I" } : Jvm.MethodName)) ∈ WG := wg_3 (List.mem_of_getElem? (i := 226) (by decide +kernel)) (by decide +kernel)
theorem q_312 : (Jvm.Cond.instanceMethod ({ cls := "Chipfold", name := "put", desc := "(II)I" } : Jvm.MethodName)) ∈ WG := wg_3 (List.mem_of_getElem? (i := 227) (by decide +kernel)) (by decide +kernel)
theorem dL_put_8 : decode cL_put 8 = .ok (.i2l, 1) := by decide +kernel
theorem dL_put_9 : decode cL_put 9 = .ok (.lastore, 1) := by decide +kernel
theorem dL_put_10 : decode cL_put 10 = .ok (.goto 15, 3) := by decide +kernel
theorem dL_put_25 : decode cL_put 25 = .ok (.iconst 0, 1) := by decide +kernel
theorem dL_put_26 : decode cL_put 26 = .ok (.ireturn, 1) := by decide +kernel
theorem dL_waves_0 : decode cL_waves 0 = .ok (.aload_n 1, 1) := by decide +kernel
theorem dL_waves_1 : decode cL_waves 1 = .ok (.iconst 0, 1) := by decide +kernel
theorem dL_waves_2 : decode cL_waves 2 = .ok (.aload_n 0, 1) := by decide +kernel
theorem dL_waves_3 : decode cL_waves 3 = .ok (.invokevirtual 45, 3) := by decide +kernel
theorem q_313 : (Jvm.Cond.code ({ cls := "Chipfold", name := "waves", desc := "()I" } : Jvm.MethodName) prog_1_method_11_code (2 : Nat) (Option.some Jvm.ClassFile.FieldType.int)) ∈ WG := wg_4 (List.mem_of_getElem? (i := 46) rfl) rfl
theorem q_314 : (Jvm.Cond.selects "Chipfold" ({ cls := "Chipfold", name := "waves", desc := "()I" } : Jvm.MethodName) ({ cls := "Chipfold", name := "waves", desc := "()I" } : Jvm.MethodName)) ∈ WG := wg_4 (List.mem_of_getElem? (i := 45) (by decide +kernel)) (by decide +kernel)
theorem q_315 : (Jvm.Cond.methodLink "ChipfoldLaw" (45 : Nat) ({ cls := "Chipfold", name := "waves", desc := "()I" } : Jvm.MethodName)) ∈ WG := wg_4 (List.mem_of_getElem? (i := 43) (by decide +kernel)) (by decide +kernel)
theorem q_316 : (Jvm.Cond.instanceMethod ({ cls := "Chipfold", name := "waves", desc := "()I" } : Jvm.MethodName)) ∈ WG := wg_4 (List.mem_of_getElem? (i := 44) (by decide +kernel)) (by decide +kernel)
theorem dL_waves_6 : decode cL_waves 6 = .ok (.i2l, 1) := by decide +kernel
theorem dL_waves_7 : decode cL_waves 7 = .ok (.lastore, 1) := by decide +kernel
theorem dL_waves_8 : decode cL_waves 8 = .ok (.goto 6, 3) := by decide +kernel
theorem dL_waves_14 : decode cL_waves 14 = .ok (.iconst 0, 1) := by decide +kernel
theorem dL_waves_15 : decode cL_waves 15 = .ok (.ireturn, 1) := by decide +kernel
set_option maxRecDepth 100000 in
set_option maxHeartbeats 400000 in
theorem c_L_vertex {l : Launch} {D : va_G} {k : Nat → ClassId} (o : Nat) (h : Nat) (pp : Nat) (x2 : Nat) (x3 : Nat) (x4 : Nat) (o2 : Nat) (o4 : Nat) (o9 : Nat) (o7 : Nat) (o0 : Nat) (o1 : Nat) (jj : Nat) (dd : Nat) (n : Nat) (z : Nat) (fj : Nat → Int32) (fd : Nat → Int32) (r1 : Nat) (a1 : Nat) (r2 : Nat) (a2 : Nat) (f : Nat → Int32) (ct : Nat → Int32) (tk : Int32) (s1 : Nat) (b1 : Nat) (s2 : Nat) (b2 : Nat) (f7 : Nat → Int32) (g7 : Nat → Int32) (t1 : Nat) (t2 : Nat) (t3 : Nat) (t4 : Nat) (t5 : Nat) (u1 : Nat) (f0 : Nat → Int32) (oo : Nat) (fl1 : Nat → Int64) (hn : n < 6) : CMW l D k yL_vertex cL_vertex 3 (some .int) [((0 : Nat), (8 : Nat), (11 : Nat), (13 : Nat))] 4 83 [.ref o, .ref oo] [(o, .inr (14, [.ref h, .ref pp, .ref x2, .ref x3, .ref x4, .ref o2, .ref o4, .ref o9, .ref o7, .ref o0, .ref o1])), (h, .inr (7, [.ref jj, .ref dd, .int (nI n), .int (nI z)])), (jj, aI k 36 fj), (dd, aI k 6 fd), (pp, .inr (10, [.ref h, .ref r1, .ref r2, .int tk])), (r1, .inr (12, [.ref a1])), (a1, aI k 6 f), (r2, .inr (12, [.ref a2])), (a2, aI k 6 ct), (o7, .inr (11, [.ref h, .ref s1, .ref s2])), (s1, .inr (12, [.ref b1])), (b1, aI k 6 f7), (s2, .inr (12, [.ref b2])), (b2, aI k 6 g7), (o0, .inr (4, [.ref h, .ref o2, .ref t1, .ref t2, .ref t3, .ref t4, .ref t5])), (t1, .inr (12, [.ref u1])), (u1, aI k 6 f0), (oo, aJ k 1 fl1)] (is1 (some (.int 0)) [(o, .inr (14, [.ref h, .ref pp, .ref x2, .ref x3, .ref x4, .ref o2, .ref o4, .ref o9, .ref o7, .ref o0, .ref o1])), (h, .inr (7, [.ref jj, .ref dd, .int (nI (n + 1)), .int (nI z)])), (jj, aI k 36 fj), (dd, aI k 6 fd), (pp, .inr (10, [.ref h, .ref r1, .ref r2, .int 0])), (r1, .inr (12, [.ref a1])), (a1, aI k 6 (fun _ => 0)), (r2, .inr (12, [.ref a2])), (a2, aI k 6 (fun _ => 0)), (o7, .inr (11, [.ref h, .ref s1, .ref s2])), (s1, .inr (12, [.ref b1])), (b1, aI k 6 (fun _ => 0)), (s2, .inr (12, [.ref b2])), (b2, aI k 6 (fun _ => 0)), (o0, .inr (4, [.ref h, .ref o2, .ref t1, .ref t2, .ref t3, .ref t4, .ref t5])), (t1, .inr (12, [.ref u1])), (u1, aI k 6 (fun _ => 0)), (oo, aJ k 1 (fun _ => (nI n).toInt64))]) 0 0 0 := by
  refine CMW.of (lv0 := [(0, .ref o), (1, .ref oo)]) (by decide +kernel) (Nat.le_of_ble_eq_true rfl) rfl ?_
  intro p e s m below meth c C hr hlk hin had
  refine g_aload_n (pc := 0) C 1 rfl rfl dL_vertex_0 ?_
  refine g_iconst (pc := 1) (v := 0) C (by decide) dL_vertex_1 ?_
  refine g_aload_n (pc := 2) C 0 rfl rfl dL_vertex_2 ?_
  refine g_callV (pc := 3) (cells := 0) (slots := 0) (g := 0) (As := []) (st := [.int 0, .ref oo]) (T := TX10) (q0 := 0) C (nA := 0) rfl (c_X10_vertex o h pp x2 x3 x4 o2 o4 o9 o7 o0 o1 jj dd n z fj fd r1 a1 r2 a2 f ct tk s1 b1 s2 b2 f7 g7 t1 t2 t3 t4 t5 u1 f0 (by first | assumption | decide | omega)) q_303 q_304 q_302 q_201 q_301 (by decide +kernel) rfl rfl dL_vertex_3 ⟨Nat.le_of_ble_eq_true rfl, Nat.le_of_ble_eq_true rfl⟩ [0, 1, 2, 3, 4, 5, 6, 7, 8, 9, 10, 11, 12, 13, 14, 15, 16] [17] rfl (wr := [(oo, aJ k 1 fl1)]) rfl (by decide) (by decide) (by decide) (Nat.le_of_ble_eq_true rfl) ⟨Nat.le_of_ble_eq_true rfl, Nat.le_of_ble_eq_true rfl⟩ (fun rv w1 h1 => ?_)
  obtain ⟨rfl, rfl⟩ := h1
  refine G.aft [1, 2, 3, 4, 5, 6, 7, 8, 9, 10, 11, 12, 13, 14, 15, 16, 17, 0] (ws' := [(o, .inr (14, [.ref h, .ref pp, .ref x2, .ref x3, .ref x4, .ref o2, .ref o4, .ref o9, .ref o7, .ref o0, .ref o1])), (h, .inr (7, [.ref jj, .ref dd, .int (nI (n + 1)), .int (nI z)])), (jj, aI k 36 fj), (dd, aI k 6 fd), (pp, .inr (10, [.ref h, .ref r1, .ref r2, .int 0])), (r1, .inr (12, [.ref a1])), (a1, aI k 6 (fun _ => 0)), (r2, .inr (12, [.ref a2])), (a2, aI k 6 (fun _ => 0)), (o7, .inr (11, [.ref h, .ref s1, .ref s2])), (s1, .inr (12, [.ref b1])), (b1, aI k 6 (fun _ => 0)), (s2, .inr (12, [.ref b2])), (b2, aI k 6 (fun _ => 0)), (o0, .inr (4, [.ref h, .ref o2, .ref t1, .ref t2, .ref t3, .ref t4, .ref t5])), (t1, .inr (12, [.ref u1])), (u1, aI k 6 (fun _ => 0)), (oo, aJ k 1 fl1)]) (st' := [.int (nI n), .int 0, .ref oo]) (cells' := 0) (slots' := 0) (g' := 0) (by decide) rfl rfl rfl rfl rfl ?_
  refine g_i2l (pc := 6) C dL_vertex_6 ?_
  refine g_last_n (pc := 7) C (j := 0) 17 [(o, .inr (14, [.ref h, .ref pp, .ref x2, .ref x3, .ref x4, .ref o2, .ref o4, .ref o9, .ref o7, .ref o0, .ref o1])), (h, .inr (7, [.ref jj, .ref dd, .int (nI (n + 1)), .int (nI z)])), (jj, aI k 36 fj), (dd, aI k 6 fd), (pp, .inr (10, [.ref h, .ref r1, .ref r2, .int 0])), (r1, .inr (12, [.ref a1])), (a1, aI k 6 (fun _ => 0)), (r2, .inr (12, [.ref a2])), (a2, aI k 6 (fun _ => 0)), (o7, .inr (11, [.ref h, .ref s1, .ref s2])), (s1, .inr (12, [.ref b1])), (b1, aI k 6 (fun _ => 0)), (s2, .inr (12, [.ref b2])), (b2, aI k 6 (fun _ => 0)), (o0, .inr (4, [.ref h, .ref o2, .ref t1, .ref t2, .ref t3, .ref t4, .ref t5])), (t1, .inr (12, [.ref u1])), (u1, aI k 6 (fun _ => 0)), (oo, aJ k 1 (vp_updL fl1 0 ((nI n).toInt64)))] rfl (by omega) (by first | decide | omega) rfl rfl dL_vertex_7 ?_
  refine g_goto (pc := 8) C 14 (by decide) dL_vertex_8 ?_
  refine g_iconst (pc := 14) (v := 0) C (by decide) dL_vertex_14 ?_
  refine G.fnJ (fun _ => (nI n).toInt64) 17 [(o, .inr (14, [.ref h, .ref pp, .ref x2, .ref x3, .ref x4, .ref o2, .ref o4, .ref o9, .ref o7, .ref o0, .ref o1])), (h, .inr (7, [.ref jj, .ref dd, .int (nI (n + 1)), .int (nI z)])), (jj, aI k 36 fj), (dd, aI k 6 fd), (pp, .inr (10, [.ref h, .ref r1, .ref r2, .int 0])), (r1, .inr (12, [.ref a1])), (a1, aI k 6 (fun _ => 0)), (r2, .inr (12, [.ref a2])), (a2, aI k 6 (fun _ => 0)), (o7, .inr (11, [.ref h, .ref s1, .ref s2])), (s1, .inr (12, [.ref b1])), (b1, aI k 6 (fun _ => 0)), (s2, .inr (12, [.ref b2])), (b2, aI k 6 (fun _ => 0)), (o0, .inr (4, [.ref h, .ref o2, .ref t1, .ref t2, .ref t3, .ref t4, .ref t5])), (t1, .inr (12, [.ref u1])), (u1, aI k 6 (fun _ => 0)), (oo, aJ k 1 (fun _ => (nI n).toInt64))] rfl (fun j hj => by first | rfl | simp [vp_updL, show j = 0 by omega]) rfl ?_
  exact g_iret (pc := 15) C hr hlk (by first | decide | omega) (by first | decide | omega) (by first | decide | omega) dL_vertex_15 ⟨rfl, rfl⟩
set_option maxRecDepth 100000 in
set_option maxHeartbeats 400000 in
theorem c_L_edges {l : Launch} {D : va_G} {k : Nat → ClassId} (o : Nat) (h : Nat) (pp : Nat) (x2 : Nat) (x3 : Nat) (x4 : Nat) (o2 : Nat) (o4 : Nat) (o9 : Nat) (o7 : Nat) (o0 : Nat) (o1 : Nat) (jj : Nat) (dd : Nat) (n : Nat) (z : Nat) (fj : Nat → Int32) (fd : Nat → Int32) (r1 : Nat) (a1 : Nat) (r2 : Nat) (a2 : Nat) (f : Nat → Int32) (ct : Nat → Int32) (tk : Int32) (s1 : Nat) (b1 : Nat) (s2 : Nat) (b2 : Nat) (f7 : Nat → Int32) (g7 : Nat → Int32) (t1 : Nat) (t2 : Nat) (t3 : Nat) (t4 : Nat) (t5 : Nat) (u1 : Nat) (f0 : Nat → Int32) (oo : Nat) (fl1 : Nat → Int64) (v : Nat) (w : Nat) (y : Nat) (hn : n ≤ 6) (hv : v < n) (hw : w < n) (hvw : ¬ v = w) (hy : y ≤ 3) (hch : ¬ fj (v * 6 + w) = nI y) : CMW l D k yL_edges cL_edges 6 (some .int) [((0 : Nat), (12 : Nat), (15 : Nat), (19 : Nat)), ((0 : Nat), (12 : Nat), (19 : Nat), (21 : Nat))] 4 86 [.ref o, .int (nI v), .int (nI w), .int (nI y), .ref oo] [(o, .inr (14, [.ref h, .ref pp, .ref x2, .ref x3, .ref x4, .ref o2, .ref o4, .ref o9, .ref o7, .ref o0, .ref o1])), (h, .inr (7, [.ref jj, .ref dd, .int (nI n), .int (nI z)])), (jj, aI k 36 fj), (dd, aI k 6 fd), (pp, .inr (10, [.ref h, .ref r1, .ref r2, .int tk])), (r1, .inr (12, [.ref a1])), (a1, aI k 6 f), (r2, .inr (12, [.ref a2])), (a2, aI k 6 ct), (o7, .inr (11, [.ref h, .ref s1, .ref s2])), (s1, .inr (12, [.ref b1])), (b1, aI k 6 f7), (s2, .inr (12, [.ref b2])), (b2, aI k 6 g7), (o0, .inr (4, [.ref h, .ref o2, .ref t1, .ref t2, .ref t3, .ref t4, .ref t5])), (t1, .inr (12, [.ref u1])), (u1, aI k 6 f0), (oo, aJ k 1 fl1)] (is1 (some (.int 0)) [(o, .inr (14, [.ref h, .ref pp, .ref x2, .ref x3, .ref x4, .ref o2, .ref o4, .ref o9, .ref o7, .ref o0, .ref o1])), (h, .inr (7, [.ref jj, .ref dd, .int (nI n), .int (nI z)])), (jj, aI k 36 (jnJ fj v w (nI y))), (dd, aI k 6 (jnD fj fd v w (nI y))), (pp, .inr (10, [.ref h, .ref r1, .ref r2, .int 0])), (r1, .inr (12, [.ref a1])), (a1, aI k 6 (fun _ => 0)), (r2, .inr (12, [.ref a2])), (a2, aI k 6 (fun _ => 0)), (o7, .inr (11, [.ref h, .ref s1, .ref s2])), (s1, .inr (12, [.ref b1])), (b1, aI k 6 (fun _ => 0)), (s2, .inr (12, [.ref b2])), (b2, aI k 6 (fun _ => 0)), (o0, .inr (4, [.ref h, .ref o2, .ref t1, .ref t2, .ref t3, .ref t4, .ref t5])), (t1, .inr (12, [.ref u1])), (u1, aI k 6 (fun _ => 0)), (oo, aJ k 1 (fun _ => (fj (v * 6 + w)).toInt64))]) 0 0 0 := by
  refine CMW.of (lv0 := [(0, .ref o), (1, .int (nI v)), (2, .int (nI w)), (3, .int (nI y)), (4, .ref oo)]) (by decide +kernel) (Nat.le_of_ble_eq_true rfl) rfl ?_
  intro p e s m below meth c C hr hlk hin had
  refine g_aload (pc := 0) C 4 rfl dL_edges_0 ?_
  refine g_iconst (pc := 2) (v := 0) C (by decide) dL_edges_2 ?_
  refine g_aload_n (pc := 3) C 0 rfl rfl dL_edges_3 ?_
  refine g_iload_n (pc := 4) C 1 rfl rfl dL_edges_4 ?_
  refine g_iload_n (pc := 5) C 2 rfl rfl dL_edges_5 ?_
  refine g_iload_n (pc := 6) C 3 rfl rfl dL_edges_6 ?_
  refine g_callV (pc := 7) (cells := 0) (slots := 0) (g := 0) (As := [.int (nI v), .int (nI w), .int (nI y)]) (st := [.int 0, .ref oo]) (T := TX10) (q0 := 0) C (nA := 3) rfl (c_X10_edges o h pp x2 x3 x4 o2 o4 o9 o7 o0 o1 jj dd n z fj fd r1 a1 r2 a2 f ct tk s1 b1 s2 b2 f7 g7 t1 t2 t3 t4 t5 u1 f0 v w y (by first | assumption | decide | omega) (by first | assumption | decide | omega) (by first | assumption | decide | omega) (by first | assumption | decide | omega) (by first | assumption | decide | omega) (by first | assumption | decide | omega)) q_307 q_308 q_306 q_201 q_305 (by decide +kernel) rfl rfl dL_edges_7 ⟨Nat.le_of_ble_eq_true rfl, Nat.le_of_ble_eq_true rfl⟩ [0, 1, 2, 3, 4, 5, 6, 7, 8, 9, 10, 11, 12, 13, 14, 15, 16] [17] rfl (wr := [(oo, aJ k 1 fl1)]) rfl (by decide) (by decide) (by decide) (Nat.le_of_ble_eq_true rfl) ⟨Nat.le_of_ble_eq_true rfl, Nat.le_of_ble_eq_true rfl⟩ (fun rv w1 h1 => ?_)
  obtain ⟨rfl, rfl⟩ := h1
  refine G.aft [1, 2, 3, 4, 5, 6, 7, 8, 9, 10, 11, 12, 13, 14, 15, 16, 17, 0] (ws' := [(o, .inr (14, [.ref h, .ref pp, .ref x2, .ref x3, .ref x4, .ref o2, .ref o4, .ref o9, .ref o7, .ref o0, .ref o1])), (h, .inr (7, [.ref jj, .ref dd, .int (nI n), .int (nI z)])), (jj, aI k 36 (jnJ fj v w (nI y))), (dd, aI k 6 (jnD fj fd v w (nI y))), (pp, .inr (10, [.ref h, .ref r1, .ref r2, .int 0])), (r1, .inr (12, [.ref a1])), (a1, aI k 6 (fun _ => 0)), (r2, .inr (12, [.ref a2])), (a2, aI k 6 (fun _ => 0)), (o7, .inr (11, [.ref h, .ref s1, .ref s2])), (s1, .inr (12, [.ref b1])), (b1, aI k 6 (fun _ => 0)), (s2, .inr (12, [.ref b2])), (b2, aI k 6 (fun _ => 0)), (o0, .inr (4, [.ref h, .ref o2, .ref t1, .ref t2, .ref t3, .ref t4, .ref t5])), (t1, .inr (12, [.ref u1])), (u1, aI k 6 (fun _ => 0)), (oo, aJ k 1 fl1)]) (st' := [.int (fj (v * 6 + w)), .int 0, .ref oo]) (cells' := 0) (slots' := 0) (g' := 0) (by decide) rfl rfl rfl rfl rfl ?_
  refine g_i2l (pc := 10) C dL_edges_10 ?_
  refine g_last_n (pc := 11) C (j := 0) 17 [(o, .inr (14, [.ref h, .ref pp, .ref x2, .ref x3, .ref x4, .ref o2, .ref o4, .ref o9, .ref o7, .ref o0, .ref o1])), (h, .inr (7, [.ref jj, .ref dd, .int (nI n), .int (nI z)])), (jj, aI k 36 (jnJ fj v w (nI y))), (dd, aI k 6 (jnD fj fd v w (nI y))), (pp, .inr (10, [.ref h, .ref r1, .ref r2, .int 0])), (r1, .inr (12, [.ref a1])), (a1, aI k 6 (fun _ => 0)), (r2, .inr (12, [.ref a2])), (a2, aI k 6 (fun _ => 0)), (o7, .inr (11, [.ref h, .ref s1, .ref s2])), (s1, .inr (12, [.ref b1])), (b1, aI k 6 (fun _ => 0)), (s2, .inr (12, [.ref b2])), (b2, aI k 6 (fun _ => 0)), (o0, .inr (4, [.ref h, .ref o2, .ref t1, .ref t2, .ref t3, .ref t4, .ref t5])), (t1, .inr (12, [.ref u1])), (u1, aI k 6 (fun _ => 0)), (oo, aJ k 1 (vp_updL fl1 0 ((fj (v * 6 + w)).toInt64)))] rfl (by omega) (by first | decide | omega) rfl rfl dL_edges_11 ?_
  refine g_goto (pc := 12) C 23 (by decide) dL_edges_12 ?_
  refine g_iconst (pc := 23) (v := 0) C (by decide) dL_edges_23 ?_
  refine G.fnJ (fun _ => (fj (v * 6 + w)).toInt64) 17 [(o, .inr (14, [.ref h, .ref pp, .ref x2, .ref x3, .ref x4, .ref o2, .ref o4, .ref o9, .ref o7, .ref o0, .ref o1])), (h, .inr (7, [.ref jj, .ref dd, .int (nI n), .int (nI z)])), (jj, aI k 36 (jnJ fj v w (nI y))), (dd, aI k 6 (jnD fj fd v w (nI y))), (pp, .inr (10, [.ref h, .ref r1, .ref r2, .int 0])), (r1, .inr (12, [.ref a1])), (a1, aI k 6 (fun _ => 0)), (r2, .inr (12, [.ref a2])), (a2, aI k 6 (fun _ => 0)), (o7, .inr (11, [.ref h, .ref s1, .ref s2])), (s1, .inr (12, [.ref b1])), (b1, aI k 6 (fun _ => 0)), (s2, .inr (12, [.ref b2])), (b2, aI k 6 (fun _ => 0)), (o0, .inr (4, [.ref h, .ref o2, .ref t1, .ref t2, .ref t3, .ref t4, .ref t5])), (t1, .inr (12, [.ref u1])), (u1, aI k 6 (fun _ => 0)), (oo, aJ k 1 (fun _ => (fj (v * 6 + w)).toInt64))] rfl (fun j hj => by first | rfl | simp [vp_updL, show j = 0 by omega]) rfl ?_
  exact g_iret (pc := 24) C hr hlk (by first | decide | omega) (by first | decide | omega) (by first | decide | omega) dL_edges_24 ⟨rfl, rfl⟩
set_option maxRecDepth 100000 in
set_option maxHeartbeats 400000 in
theorem c_L_put {l : Launch} {D : va_G} {k : Nat → ClassId} (o : Nat) (h : Nat) (pp : Nat) (x2 : Nat) (x3 : Nat) (x4 : Nat) (o2 : Nat) (o4 : Nat) (o9 : Nat) (o7 : Nat) (o0 : Nat) (o1 : Nat) (jj : Nat) (dd : Nat) (n : Nat) (z : Nat) (fj : Nat → Int32) (fd : Nat → Int32) (r1 : Nat) (a1 : Nat) (r2 : Nat) (a2 : Nat) (f : Nat → Int32) (ct : Nat → Int32) (tk : Int32) (oo : Nat) (fl1 : Nat → Int64) (v : Nat) (y : Nat) (hn : n ≤ 6) (hv : v < n) (hz : z < 6) (hvz : ¬ v = z) (hy1 : 1 ≤ y) (hy2 : y ≤ 200) (hs : f v + nI y ≤ 2000) : CMW l D k yL_put cL_put 5 (some .int) [((0 : Nat), (10 : Nat), (13 : Nat), (19 : Nat)), ((0 : Nat), (10 : Nat), (17 : Nat), (21 : Nat)), ((0 : Nat), (10 : Nat), (21 : Nat), (13 : Nat))] 3 66 [.ref o, .int (nI v), .int (nI y), .ref oo] [(o, .inr (14, [.ref h, .ref pp, .ref x2, .ref x3, .ref x4, .ref o2, .ref o4, .ref o9, .ref o7, .ref o0, .ref o1])), (h, .inr (7, [.ref jj, .ref dd, .int (nI n), .int (nI z)])), (jj, aI k 36 fj), (dd, aI k 6 fd), (pp, .inr (10, [.ref h, .ref r1, .ref r2, .int tk])), (r1, .inr (12, [.ref a1])), (a1, aI k 6 f), (r2, .inr (12, [.ref a2])), (a2, aI k 6 ct), (oo, aJ k 1 fl1)] (is1 (some (.int 0)) [(o, .inr (14, [.ref h, .ref pp, .ref x2, .ref x3, .ref x4, .ref o2, .ref o4, .ref o9, .ref o7, .ref o0, .ref o1])), (h, .inr (7, [.ref jj, .ref dd, .int (nI n), .int (nI z)])), (jj, aI k 36 fj), (dd, aI k 6 fd), (pp, .inr (10, [.ref h, .ref r1, .ref r2, .int tk])), (r1, .inr (12, [.ref a1])), (a1, aI k 6 (upd f v (f v + nI y))), (r2, .inr (12, [.ref a2])), (a2, aI k 6 ct), (oo, aJ k 1 (fun _ => (f v + nI y).toInt64))]) 0 0 0 := by
  refine CMW.of (lv0 := [(0, .ref o), (1, .int (nI v)), (2, .int (nI y)), (3, .ref oo)]) (by decide +kernel) (Nat.le_of_ble_eq_true rfl) rfl ?_
  intro p e s m below meth c C hr hlk hin had
  refine g_aload_n (pc := 0) C 3 rfl rfl dL_put_0 ?_
  refine g_iconst (pc := 1) (v := 0) C (by decide) dL_put_1 ?_
  refine g_aload_n (pc := 2) C 0 rfl rfl dL_put_2 ?_
  refine g_iload_n (pc := 3) C 1 rfl rfl dL_put_3 ?_
  refine g_iload_n (pc := 4) C 2 rfl rfl dL_put_4 ?_
  refine g_callV (pc := 5) (cells := 0) (slots := 0) (g := 0) (As := [.int (nI v), .int (nI y)]) (st := [.int 0, .ref oo]) (T := TX10) (q0 := 0) C (nA := 2) rfl (c_X10_put o h pp x2 x3 x4 o2 o4 o9 o7 o0 o1 jj dd n z fj fd r1 a1 r2 a2 f ct tk v y (by first | assumption | decide | omega) (by first | assumption | decide | omega) (by first | assumption | decide | omega) (by first | assumption | decide | omega) (by first | assumption | decide | omega) (by first | assumption | decide | omega) (by first | assumption | decide | omega)) q_311 q_312 q_310 q_201 q_309 (by decide +kernel) rfl rfl dL_put_5 ⟨Nat.le_of_ble_eq_true rfl, Nat.le_of_ble_eq_true rfl⟩ [0, 1, 2, 3, 4, 5, 6, 7, 8] [9] rfl (wr := [(oo, aJ k 1 fl1)]) rfl (by decide) (by decide) (by decide) (Nat.le_of_ble_eq_true rfl) ⟨Nat.le_of_ble_eq_true rfl, Nat.le_of_ble_eq_true rfl⟩ (fun rv w1 h1 => ?_)
  obtain ⟨rfl, rfl⟩ := h1
  refine G.aft [1, 2, 3, 4, 5, 6, 7, 8, 9, 0] (ws' := [(o, .inr (14, [.ref h, .ref pp, .ref x2, .ref x3, .ref x4, .ref o2, .ref o4, .ref o9, .ref o7, .ref o0, .ref o1])), (h, .inr (7, [.ref jj, .ref dd, .int (nI n), .int (nI z)])), (jj, aI k 36 fj), (dd, aI k 6 fd), (pp, .inr (10, [.ref h, .ref r1, .ref r2, .int tk])), (r1, .inr (12, [.ref a1])), (a1, aI k 6 (upd f v (f v + nI y))), (r2, .inr (12, [.ref a2])), (a2, aI k 6 ct), (oo, aJ k 1 fl1)]) (st' := [.int (f v + nI y), .int 0, .ref oo]) (cells' := 0) (slots' := 0) (g' := 0) (by decide) rfl rfl rfl rfl rfl ?_
  refine g_i2l (pc := 8) C dL_put_8 ?_
  refine g_last_n (pc := 9) C (j := 0) 9 [(o, .inr (14, [.ref h, .ref pp, .ref x2, .ref x3, .ref x4, .ref o2, .ref o4, .ref o9, .ref o7, .ref o0, .ref o1])), (h, .inr (7, [.ref jj, .ref dd, .int (nI n), .int (nI z)])), (jj, aI k 36 fj), (dd, aI k 6 fd), (pp, .inr (10, [.ref h, .ref r1, .ref r2, .int tk])), (r1, .inr (12, [.ref a1])), (a1, aI k 6 (upd f v (f v + nI y))), (r2, .inr (12, [.ref a2])), (a2, aI k 6 ct), (oo, aJ k 1 (vp_updL fl1 0 ((f v + nI y).toInt64)))] rfl (by omega) (by first | decide | omega) rfl rfl dL_put_9 ?_
  refine g_goto (pc := 10) C 25 (by decide) dL_put_10 ?_
  refine g_iconst (pc := 25) (v := 0) C (by decide) dL_put_25 ?_
  refine G.fnJ (fun _ => (f v + nI y).toInt64) 9 [(o, .inr (14, [.ref h, .ref pp, .ref x2, .ref x3, .ref x4, .ref o2, .ref o4, .ref o9, .ref o7, .ref o0, .ref o1])), (h, .inr (7, [.ref jj, .ref dd, .int (nI n), .int (nI z)])), (jj, aI k 36 fj), (dd, aI k 6 fd), (pp, .inr (10, [.ref h, .ref r1, .ref r2, .int tk])), (r1, .inr (12, [.ref a1])), (a1, aI k 6 (upd f v (f v + nI y))), (r2, .inr (12, [.ref a2])), (a2, aI k 6 ct), (oo, aJ k 1 (fun _ => (f v + nI y).toInt64))] rfl (fun j hj => by first | rfl | simp [vp_updL, show j = 0 by omega]) rfl ?_
  exact g_iret (pc := 26) C hr hlk (by first | decide | omega) (by first | decide | omega) (by first | decide | omega) dL_put_26 ⟨rfl, rfl⟩
set_option maxRecDepth 100000 in
set_option maxHeartbeats 400000 in
theorem c_L_waves {l : Launch} {D : va_G} {k : Nat → ClassId} (o : Nat) (h : Nat) (pp : Nat) (x2 : Nat) (x3 : Nat) (x4 : Nat) (o2 : Nat) (o4 : Nat) (o9 : Nat) (o7 : Nat) (o0 : Nat) (o1 : Nat) (jj : Nat) (dd : Nat) (n : Nat) (z : Nat) (fj : Nat → Int32) (fd : Nat → Int32) (r1 : Nat) (a1 : Nat) (r2 : Nat) (a2 : Nat) (f : Nat → Int32) (ct : Nat → Int32) (tk : Int32) (r3 : Nat) (a3 : Nat) (r4 : Nat) (a4 : Nat) (f2 : Nat → Int32) (ct2 : Nat → Int32) (tk2 : Int32) (oo : Nat) (fl1 : Nat → Int64) (N : Nat) (hn : n ≤ 6) (hz : z < 6) (hw : gConn fj n = true) (hN : N < 1000000) (hs1 : ∀ i, i < N → ¬ wvM z fd (wvI n z fj fd f i).1 n = 0) (hs2 : wvM z fd (wvI n z fj fd f N).1 n = 0) : CMW l D k yL_waves cL_waves 3 (some .int) [((0 : Nat), (8 : Nat), (11 : Nat), (40 : Nat))] 5 111 [.ref o, .ref oo] [(o, .inr (14, [.ref h, .ref pp, .ref x2, .ref x3, .ref x4, .ref o2, .ref o4, .ref o9, .ref o7, .ref o0, .ref o1])), (h, .inr (7, [.ref jj, .ref dd, .int (nI n), .int (nI z)])), (jj, aI k 36 fj), (dd, aI k 6 fd), (pp, .inr (10, [.ref h, .ref r1, .ref r2, .int tk])), (r1, .inr (12, [.ref a1])), (a1, aI k 6 f), (r2, .inr (12, [.ref a2])), (a2, aI k 6 ct), (x2, .inr (10, [.ref h, .ref r3, .ref r4, .int tk2])), (r3, .inr (12, [.ref a3])), (a3, aI k 6 f2), (r4, .inr (12, [.ref a4])), (a4, aI k 6 ct2), (oo, aJ k 1 fl1)] (is1 (some (.int 0)) [(o, .inr (14, [.ref h, .ref pp, .ref x2, .ref x3, .ref x4, .ref o2, .ref o4, .ref o9, .ref o7, .ref o0, .ref o1])), (h, .inr (7, [.ref jj, .ref dd, .int (nI n), .int (nI z)])), (jj, aI k 36 fj), (dd, aI k 6 fd), (pp, .inr (10, [.ref h, .ref r1, .ref r2, .int tk])), (r1, .inr (12, [.ref a1])), (a1, aI k 6 f), (r2, .inr (12, [.ref a2])), (a2, aI k 6 ct), (x2, .inr (10, [.ref h, .ref r3, .ref r4, .int ((wvI n z fj fd f (N + 1)).2.2)])), (r3, .inr (12, [.ref a3])), (a3, aI k 6 ((wvI n z fj fd f (N + 1)).1)), (r4, .inr (12, [.ref a4])), (a4, aI k 6 ((wvI n z fj fd f (N + 1)).2.1)), (oo, aJ k 1 (fun _ => (nI N).toInt64))]) 0 0 0 := by
  refine CMW.of (lv0 := [(0, .ref o), (1, .ref oo)]) (by decide +kernel) (Nat.le_of_ble_eq_true rfl) rfl ?_
  intro p e s m below meth c C hr hlk hin had
  refine g_aload_n (pc := 0) C 1 rfl rfl dL_waves_0 ?_
  refine g_iconst (pc := 1) (v := 0) C (by decide) dL_waves_1 ?_
  refine g_aload_n (pc := 2) C 0 rfl rfl dL_waves_2 ?_
  refine g_callV (pc := 3) (cells := 0) (slots := 0) (g := 0) (As := []) (st := [.int 0, .ref oo]) (T := TX10) (q0 := 0) C (nA := 0) rfl (c_X10_waves o h pp x2 x3 x4 o2 o4 o9 o7 o0 o1 jj dd n z fj fd r1 a1 r2 a2 f ct tk r3 a3 r4 a4 f2 ct2 tk2 N (by first | assumption | decide | omega) (by first | assumption | decide | omega) (by first | assumption | decide | omega) (by first | assumption | decide | omega) (by first | assumption | decide | omega) (by first | assumption | decide | omega)) q_315 q_316 q_314 q_201 q_313 (by decide +kernel) rfl rfl dL_waves_3 ⟨Nat.le_of_ble_eq_true rfl, Nat.le_of_ble_eq_true rfl⟩ [0, 1, 2, 3, 4, 5, 6, 7, 8, 9, 10, 11, 12, 13] [14] rfl (wr := [(oo, aJ k 1 fl1)]) rfl (by decide) (by decide) (by decide) (Nat.le_of_ble_eq_true rfl) ⟨Nat.le_of_ble_eq_true rfl, Nat.le_of_ble_eq_true rfl⟩ (fun rv w1 h1 => ?_)
  obtain ⟨rfl, rfl⟩ := h1
  refine G.aft [1, 2, 3, 4, 5, 6, 7, 8, 9, 10, 11, 12, 13, 14, 0] (ws' := [(o, .inr (14, [.ref h, .ref pp, .ref x2, .ref x3, .ref x4, .ref o2, .ref o4, .ref o9, .ref o7, .ref o0, .ref o1])), (h, .inr (7, [.ref jj, .ref dd, .int (nI n), .int (nI z)])), (jj, aI k 36 fj), (dd, aI k 6 fd), (pp, .inr (10, [.ref h, .ref r1, .ref r2, .int tk])), (r1, .inr (12, [.ref a1])), (a1, aI k 6 f), (r2, .inr (12, [.ref a2])), (a2, aI k 6 ct), (x2, .inr (10, [.ref h, .ref r3, .ref r4, .int ((wvI n z fj fd f (N + 1)).2.2)])), (r3, .inr (12, [.ref a3])), (a3, aI k 6 ((wvI n z fj fd f (N + 1)).1)), (r4, .inr (12, [.ref a4])), (a4, aI k 6 ((wvI n z fj fd f (N + 1)).2.1)), (oo, aJ k 1 fl1)]) (st' := [.int (nI N), .int 0, .ref oo]) (cells' := 0) (slots' := 0) (g' := 0) (by decide) rfl rfl rfl rfl rfl ?_
  refine g_i2l (pc := 6) C dL_waves_6 ?_
  refine g_last_n (pc := 7) C (j := 0) 14 [(o, .inr (14, [.ref h, .ref pp, .ref x2, .ref x3, .ref x4, .ref o2, .ref o4, .ref o9, .ref o7, .ref o0, .ref o1])), (h, .inr (7, [.ref jj, .ref dd, .int (nI n), .int (nI z)])), (jj, aI k 36 fj), (dd, aI k 6 fd), (pp, .inr (10, [.ref h, .ref r1, .ref r2, .int tk])), (r1, .inr (12, [.ref a1])), (a1, aI k 6 f), (r2, .inr (12, [.ref a2])), (a2, aI k 6 ct), (x2, .inr (10, [.ref h, .ref r3, .ref r4, .int ((wvI n z fj fd f (N + 1)).2.2)])), (r3, .inr (12, [.ref a3])), (a3, aI k 6 ((wvI n z fj fd f (N + 1)).1)), (r4, .inr (12, [.ref a4])), (a4, aI k 6 ((wvI n z fj fd f (N + 1)).2.1)), (oo, aJ k 1 (vp_updL fl1 0 ((nI N).toInt64)))] rfl (by omega) (by first | decide | omega) rfl rfl dL_waves_7 ?_
  refine g_goto (pc := 8) C 14 (by decide) dL_waves_8 ?_
  refine g_iconst (pc := 14) (v := 0) C (by decide) dL_waves_14 ?_
  refine G.fnJ (fun _ => (nI N).toInt64) 14 [(o, .inr (14, [.ref h, .ref pp, .ref x2, .ref x3, .ref x4, .ref o2, .ref o4, .ref o9, .ref o7, .ref o0, .ref o1])), (h, .inr (7, [.ref jj, .ref dd, .int (nI n), .int (nI z)])), (jj, aI k 36 fj), (dd, aI k 6 fd), (pp, .inr (10, [.ref h, .ref r1, .ref r2, .int tk])), (r1, .inr (12, [.ref a1])), (a1, aI k 6 f), (r2, .inr (12, [.ref a2])), (a2, aI k 6 ct), (x2, .inr (10, [.ref h, .ref r3, .ref r4, .int ((wvI n z fj fd f (N + 1)).2.2)])), (r3, .inr (12, [.ref a3])), (a3, aI k 6 ((wvI n z fj fd f (N + 1)).1)), (r4, .inr (12, [.ref a4])), (a4, aI k 6 ((wvI n z fj fd f (N + 1)).2.1)), (oo, aJ k 1 (fun _ => (nI N).toInt64))] rfl (fun j hj => by first | rfl | simp [vp_updL, show j = 0 by omega]) rfl ?_
  exact g_iret (pc := 15) C hr hlk (by first | decide | omega) (by first | decide | omega) (by first | decide | omega) dL_waves_15 ⟨rfl, rfl⟩
end
section
/-- two vertices, one edge, the sink 0; so many times 200 chips on vertex 1 -/
def FJ : Nat → Int32 := jnJ (fun _ => 0) 0 1 (nI 1)
def FD : Nat → Int32 := jnD (fun _ => 0) (fun _ => 0) 0 1 (nI 1)
def FP (q : Nat) : Nat → Int32 := fun j => if j = 1 then nI (200 * q) else 0
def MZ : Nat → Nat → Int32 := fun _ _ => 0
def M2 : Nat → Nat → Int32 := eU (eU MZ 0 1 (nI 1)) 1 0 (nI 1)
def cW (i : Nat) : Nat → Int32 := fun j => if j = 1 then nI (2000 - i) else 0
def cR (i : Nat) : Nat → Int32 := fun j => if j = 1 then nI (2000 - i) else if j = 0 then nI i else 0
theorem FP_0 : FP 0 = fun _ => 0 := by
  funext j
  unfold FP
  split <;> rfl
theorem FP_s (q : Nat) : upd (FP q) 1 (FP q 1 + nI 200) = FP (q + 1) := by
  funext j
  by_cases h : j = 1
  · subst h
    rw [upd_s]
    show nI (200 * q) + nI 200 = nI (200 * (q + 1))
    rw [nI_add]
    rfl
  · rw [upd_n _ _ h]
    simp [FP, h]
theorem fd1 : FD 1 = 1 := by decide +kernel
theorem fj7 : FJ 7 = 0 := by decide +kernel
theorem nI_lt1 {k : Nat} (hk : k < 2000) : ¬ nI (k + 1) < (1 : Int32) := nI_nlt (a := k + 1) (b := 1) (by omega) (by omega)
theorem nI_m1 (k : Nat) : nI (k + 1) + (-1) * 1 + 1 * 0 = nI k := by
  rw [show ((-1 : Int32) * 1) = -1 from by decide, show ((1 : Int32) * 0) = 0 from by decide, pk_m1, Int32.add_zero]
theorem top1 {f : Nat → Int32} (h : ¬ f 1 < 1) : cTop 0 FD f 1 = true := by
  simp [cTop, fd1, h]
theorem top1f {f : Nat → Int32} (h : f 1 < 1) : cTop 0 FD f 1 = false := by
  simp [cTop, fd1, h]
theorem top0 (f : Nat → Int32) : cTop 0 FD f 0 = false := by simp [cTop]
theorem msk {f : Nat → Int32} (h : ¬ f 1 < 1) : wvM 0 FD f 2 = 2 := by
  simp only [wvM, top1 h, top0]
  decide
theorem msk0 {f : Nat → Int32} (h : f 1 < 1) : wvM 0 FD f 2 = 0 := by
  simp only [wvM, top1f h, top0]
  decide
theorem one_wave (S : (Nat → Int32) × (Nat → Int32) × Int32) (k : Nat) (h1 : S.1 1 = nI (k + 1)) (j : Nat) : (wvS 2 0 FJ FD 2 S 2).1 j = if j = 1 then nI k else S.1 j := by
  have b0 : ¬ (((2 : Int32) >>> (nI 0 &&& 31)) &&& 1) = 1 := by decide
  have b1 : (((2 : Int32) >>> (nI 1 &&& 31)) &&& 1) = 1 := by decide
  have e1 : wvS 2 0 FJ FD 2 S 1 = S := by
    show (if ((2 : Int32) >>> (nI 0 &&& 31)) &&& 1 = 1 then _ else wvS 2 0 FJ FD 2 S 0) = S
    rw [if_neg b0]
    rfl
  have e2 : (wvS 2 0 FJ FD 2 S 2).1 = tpF 0 FJ 1 1 (upd S.1 1 (S.1 1 + (-1) * FD 1)) 2 := by
    show (if ((2 : Int32) >>> (nI 1 &&& 31)) &&& 1 = 1 then _ else _ : (Nat → Int32) × (Nat → Int32) × Int32).1 = _
    rw [if_pos b1, e1]
  rw [e2]
  simp only [tpF, if_pos, if_neg (show ¬ (1 : Nat) = 0 by decide), fd1, h1]
  by_cases h : j = 1
  · subst h
    rw [upd_s, upd_s, if_pos rfl, fj7]
    exact nI_m1 k
  · rw [upd_n _ _ h, upd_n _ _ h, if_neg h]
theorem cW_10 : FP 10 = cW 0 := rfl
theorem wave_it : ∀ i, i ≤ 2000 → (wvI 2 0 FJ FD (FP 10) i).1 = cW i := by
  intro i
  induction i with
  | zero => intro _; exact cW_10
  | succ i ih =>
    intro hi
    have hI := ih (by omega)
    have h1 : (wvI 2 0 FJ FD (FP 10) i).1 1 = nI ((1999 - i) + 1) := by
      rw [hI]
      show nI (2000 - i) = _
      rw [show 2000 - i = 1999 - i + 1 by omega]
    funext j
    show (wvS 2 0 FJ FD (wvM 0 FD (wvI 2 0 FJ FD (FP 10) i).1 2) (wvI 2 0 FJ FD (FP 10) i) 2).1 j = _
    rw [msk (by rw [h1]; exact nI_lt1 (by omega)), one_wave _ _ h1 j, hI]
    unfold cW
    by_cases h : j = 1
    · rw [if_pos h, if_pos h, show 2000 - (i + 1) = 1999 - i by omega]
    · rw [if_neg h, if_neg h, if_neg h]
theorem wave_go (i : Nat) (hi : i < 2000) : ¬ wvM 0 FD (wvI 2 0 FJ FD (FP 10) i).1 2 = 0 := by
  rw [wave_it i (by omega), msk (by
    show ¬ nI (2000 - i) < 1
    rw [show 2000 - i = 1999 - i + 1 by omega]
    exact nI_lt1 (by omega))]
  decide
theorem wave_end : wvM 0 FD (wvI 2 0 FJ FD (FP 10) 2000).1 2 = 0 := by
  rw [wave_it 2000 (by omega), msk0 (by decide)]
theorem gc2 : gConn FJ 2 = true := by decide +kernel
-- the reference's waves
theorem dg1 : rSum (M2 1) 6 = 1 := by decide +kernel
theorem m10 : M2 1 0 = 1 := by decide +kernel
theorem m11 : M2 1 1 = 0 := by decide +kernel
theorem can1 {f : Nat → Int32} (h : ¬ f 1 < 1) : rCan 0 M2 f 1 = true := by simp [rCan, dg1, h]
theorem can1f {f : Nat → Int32} (h : f 1 < 1) : rCan 0 M2 f 1 = false := by simp [rCan, dg1, h]
theorem can0 (f : Nat → Int32) : rCan 0 M2 f 0 = false := by simp [rCan]
theorem rmsk {f : Nat → Int32} (h : ¬ f 1 < 1) : rwM 0 M2 f 2 = 1 := by
  simp only [rwM, rwA, can1 h, can0]
  decide
theorem rmsk0 {f : Nat → Int32} (h : f 1 < 1) : rwM 0 M2 f 2 = 0 := by
  simp only [rwM, rwA, can1f h, can0]
  decide
theorem rall {f : Nat → Int32} (h : ¬ f 1 < 1) : rwA 0 M2 f 2 0 = 0 ∧ rwA 0 M2 f 2 1 = 1 := by
  simp only [rwA, can1 h, can0]
  decide
theorem one_rwave {f : Nat → Int32} (i k : Nat) (h0 : f 0 = nI i) (h1 : f 1 = nI (k + 1)) (hk : k < 2000) (j : Nat) : rwS 2 M2 f (rwA 0 M2 f 2) 2 j = if j = 1 then nI k else if j = 0 then nI (i + 1) else f j := by
  have hc : ¬ f 1 < 1 := by rw [h1]; exact nI_lt1 hk
  obtain ⟨a0, a1⟩ := rall hc
  have a2 : ¬ rwA 0 M2 f 2 1 = 0 := by rw [a1]; decide
  have e : rwS 2 M2 f (rwA 0 M2 f 2) 2 = rTp M2 1 1 f 2 := by
    show (if rwA 0 M2 f 2 1 = 0 then _ else rTp M2 1 1 (if rwA 0 M2 f 2 0 = 0 then f else _) 2) = _
    rw [if_neg a2, if_pos a0]
  rw [e]
  show upd (upd (upd f 1 (f 1 - 1 * rSum (M2 1) 6)) 0 (upd f 1 (f 1 - 1 * rSum (M2 1) 6) 0 + 1 * M2 1 0)) 1 (upd (upd f 1 (f 1 - 1 * rSum (M2 1) 6)) 0 (upd f 1 (f 1 - 1 * rSum (M2 1) 6) 0 + 1 * M2 1 0) 1 + 1 * M2 1 1) j = _
  rw [dg1, m10, m11, h1]
  by_cases hj : j = 1
  · subst hj
    rw [upd_s, upd_n _ _ (show ¬ (1 : Nat) = 0 by decide), upd_s, if_pos rfl, show ((1 : Int32) * 1) = 1 from by decide, show ((1 : Int32) * 0) = 0 from by decide, Int32.add_zero, nI_pred]
  · rw [upd_n _ _ hj, if_neg hj]
    by_cases hj0 : j = 0
    · subst hj0
      rw [upd_s, upd_n _ _ (show ¬ (0 : Nat) = 1 by decide), if_pos rfl, h0, show ((1 : Int32) * 1) = 1 from by decide, nI_1]
    · rw [upd_n _ _ hj0, upd_n _ _ hj, if_neg hj0]
theorem cR_10 : FP 10 = cR 0 := by
  funext j
  unfold FP cR
  by_cases h : j = 1
  · rw [if_pos h, if_pos h]
  · rw [if_neg h, if_neg h]
    split <;> rfl
theorem rwave_it : ∀ i, i ≤ 2000 → rwI 2 0 M2 (FP 10) i = cR i := by
  intro i
  induction i with
  | zero => intro _; exact cR_10
  | succ i ih =>
    intro hi
    have hI := ih (by omega)
    have h0 : rwI 2 0 M2 (FP 10) i 0 = nI i := by rw [hI]; rfl
    have h1 : rwI 2 0 M2 (FP 10) i 1 = nI ((1999 - i) + 1) := by
      rw [hI]
      show nI (2000 - i) = _
      rw [show 2000 - i = 1999 - i + 1 by omega]
    funext j
    show rwS 2 M2 (rwI 2 0 M2 (FP 10) i) (rwA 0 M2 (rwI 2 0 M2 (FP 10) i) 2) 2 j = _
    rw [one_rwave i _ h0 h1 (by omega) j, hI]
    unfold cR
    by_cases h : j = 1
    · rw [if_pos h, if_pos h, show 2000 - (i + 1) = 1999 - i by omega]
    · rw [if_neg h, if_neg h, if_neg h]
      by_cases h2 : j = 0
      · rw [if_pos h2, if_pos h2]
      · rw [if_neg h2, if_neg h2, if_neg h2]
theorem rwave_go (i : Nat) (hi : i < 2000) : ¬ rwM 0 M2 (rwI 2 0 M2 (FP 10) i) 2 = 0 := by
  rw [rwave_it i (by omega), rmsk (by
    show ¬ nI (2000 - i) < 1
    rw [show 2000 - i = 1999 - i + 1 by omega]
    exact nI_lt1 (by omega))]
  decide
theorem rwave_end : rwM 0 M2 (rwI 2 0 M2 (FP 10) 2000) 2 = 0 := by
  rw [rwave_it 2000 (by omega), rmsk0 (by decide)]
/-- the script: two vertices, an edge, ten times 200 chips, then waves alone -/
def scr (j : Nat) : Int32 := if j = 8 ∨ j = 10 ∨ j = 11 then 1 else if j < 12 then 0 else if j < 52 then (if j % 4 = 0 then 5 else if j % 4 = 1 then 1 else if j % 4 = 2 then 200 else 0) else if j % 4 = 0 then 9 else 0
theorem scr_w (u : Nat) : scr (52 + 4 * u) = 9 := by
  have h1 : ¬ (52 + 4 * u = 8 ∨ 52 + 4 * u = 10 ∨ 52 + 4 * u = 11) := by omega
  have h2 : ¬ 52 + 4 * u < 12 := by omega
  have h3 : ¬ 52 + 4 * u < 52 := by omega
  have h4 : (52 + 4 * u) % 4 = 0 := by omega
  simp [scr, h1, h2, h3, h4]
theorem scr_p (q : Nat) (hq : q < 10) : scr (12 + 4 * q) = 5 ∧ scr (12 + 4 * q + 1) = nI 1 ∧ scr (12 + 4 * q + 2) = nI 200 := by
  refine ⟨?_, ?_, ?_⟩
  · have h1 : ¬ (12 + 4 * q = 8 ∨ 12 + 4 * q = 10 ∨ 12 + 4 * q = 11) := by omega
    have h2 : ¬ 12 + 4 * q < 12 := by omega
    have h3 : 12 + 4 * q < 52 := by omega
    have h4 : (12 + 4 * q) % 4 = 0 := by omega
    simp [scr, h1, h2, h3, h4]
  · have h1 : ¬ (12 + 4 * q + 1 = 8 ∨ 12 + 4 * q + 1 = 10 ∨ 12 + 4 * q + 1 = 11) := by omega
    have h2 : ¬ 12 + 4 * q + 1 < 12 := by omega
    have h3 : 12 + 4 * q + 1 < 52 := by omega
    have h4 : ¬ (12 + 4 * q + 1) % 4 = 0 := by omega
    have h5 : (12 + 4 * q + 1) % 4 = 1 := by omega
    rw [scr, if_neg h1, if_neg h2, if_pos h3, if_neg h4, if_pos h5]
    rfl
  · have h1 : ¬ (12 + 4 * q + 2 = 8 ∨ 12 + 4 * q + 2 = 10 ∨ 12 + 4 * q + 2 = 11) := by omega
    have h2 : ¬ 12 + 4 * q + 2 < 12 := by omega
    have h3 : 12 + 4 * q + 2 < 52 := by omega
    have h4 : ¬ (12 + 4 * q + 2) % 4 = 0 := by omega
    have h5 : ¬ (12 + 4 * q + 2) % 4 = 1 := by omega
    have h6 : (12 + 4 * q + 2) % 4 = 2 := by omega
    rw [scr, if_neg h1, if_neg h2, if_pos h3, if_neg h4, if_neg h5, if_pos h6]
    rfl
theorem put_le (q : Nat) (hq : q < 10) : FP q 1 + nI 200 ≤ 2000 := by
  show nI (200 * q) + nI 200 ≤ nI 2000
  rw [nI_add]
  exact nI_le (by omega) (by omega)
end
