section
-- ===== PART A: goes FIRST, ahead of the names: the tables' words, and 'selects' of the private methods out of them =====
/-- a private method of a class that the tables say can be made, by its rows of tables_1 -/
def lw_okq (q : MethodName × Nat) : Prop := (q.1.cls ≠ "java/lang/invoke/MethodHandle" ∧ q.1.cls ≠ "java/lang/invoke/VarHandle") ∧ Cond.instantiable q.1.cls q.2 ∈ tables_1 ∧ Cond.privateMethod q.1 ∈ tables_1 ∧ Cond.instanceMethod q.1 ∈ tables_1
theorem lw_p0 : lw_okq (⟨"Chipfold$Graph", "neighboursOf", "(I)I"⟩, 4) := ⟨⟨by decide +kernel, by decide +kernel⟩, List.mem_of_getElem? (i := 46) (by decide +kernel), List.mem_of_getElem? (i := 268) (by decide +kernel), List.mem_of_getElem? (i := 269) (by decide +kernel)⟩
theorem lw_p1 : lw_okq (⟨"Chipfold$Group", "minor", "(II)J"⟩, 3) := ⟨⟨by decide +kernel, by decide +kernel⟩, List.mem_of_getElem? (i := 120) (by decide +kernel), List.mem_of_getElem? (i := 300) (by decide +kernel), List.mem_of_getElem? (i := 301) (by decide +kernel)⟩
theorem lw_p2 : lw_okq (⟨"Chipfold$Group", "entry", "(II)I"⟩, 3) := ⟨⟨by decide +kernel, by decide +kernel⟩, List.mem_of_getElem? (i := 120) (by decide +kernel), List.mem_of_getElem? (i := 304) (by decide +kernel), List.mem_of_getElem? (i := 305) (by decide +kernel)⟩
theorem lw_p3 : lw_okq (⟨"Chipfold$Matrix", "pivotRow", "(II)I"⟩, 1) := ⟨⟨by decide +kernel, by decide +kernel⟩, List.mem_of_getElem? (i := 126) (by decide +kernel), List.mem_of_getElem? (i := 325) (by decide +kernel), List.mem_of_getElem? (i := 326) (by decide +kernel)⟩
theorem lw_p4 : lw_okq (⟨"Chipfold$Matrix", "swapRows", "(III)V"⟩, 1) := ⟨⟨by decide +kernel, by decide +kernel⟩, List.mem_of_getElem? (i := 126) (by decide +kernel), List.mem_of_getElem? (i := 333) (by decide +kernel), List.mem_of_getElem? (i := 334) (by decide +kernel)⟩
theorem lw_p5 : lw_okq (⟨"Chipfold$Matrix", "clearBelow", "(IIJ)V"⟩, 1) := ⟨⟨by decide +kernel, by decide +kernel⟩, List.mem_of_getElem? (i := 126) (by decide +kernel), List.mem_of_getElem? (i := 338) (by decide +kernel), List.mem_of_getElem? (i := 339) (by decide +kernel)⟩
theorem lw_p6 : lw_okq (⟨"Chipfold", "settlesAlikeFromAbove", "()Z"⟩, 11) := ⟨⟨by decide +kernel, by decide +kernel⟩, List.mem_of_getElem? (i := 38) (by decide +kernel), List.mem_of_getElem? (i := 373) (by decide +kernel), List.mem_of_getElem? (i := 374) (by decide +kernel)⟩
theorem lw_p7 : lw_okq (⟨"Chipfold$Debts", "writeRest", "()V"⟩, 7) := ⟨⟨by decide +kernel, by decide +kernel⟩, List.mem_of_getElem? (i := 179) (by decide +kernel), List.mem_of_getElem? (i := 441) (by decide +kernel), List.mem_of_getElem? (i := 442) (by decide +kernel)⟩
theorem lw_p8 : lw_okq (⟨"Chipfold$Debts", "findMissing", "(LChipfold$Row;)V"⟩, 7) := ⟨⟨by decide +kernel, by decide +kernel⟩, List.mem_of_getElem? (i := 179) (by decide +kernel), List.mem_of_getElem? (i := 454) (by decide +kernel), List.mem_of_getElem? (i := 455) (by decide +kernel)⟩
theorem lw_p9 : lw_okq (⟨"Chipfold$Debts", "rankWithLosses", "(III)I"⟩, 7) := ⟨⟨by decide +kernel, by decide +kernel⟩, List.mem_of_getElem? (i := 179) (by decide +kernel), List.mem_of_getElem? (i := 479) (by decide +kernel), List.mem_of_getElem? (i := 480) (by decide +kernel)⟩
theorem lw_p10 : lw_okq (⟨"Chipfold$Debts", "sinkReduced", "(ILChipfold$Pile;)I"⟩, 7) := ⟨⟨by decide +kernel, by decide +kernel⟩, List.mem_of_getElem? (i := 179) (by decide +kernel), List.mem_of_getElem? (i := 493) (by decide +kernel), List.mem_of_getElem? (i := 494) (by decide +kernel)⟩
theorem lw_p11 : lw_okq (⟨"Chipfold$Debts", "nextLosses", "()Z"⟩, 7) := ⟨⟨by decide +kernel, by decide +kernel⟩, List.mem_of_getElem? (i := 179) (by decide +kernel), List.mem_of_getElem? (i := 499) (by decide +kernel), List.mem_of_getElem? (i := 500) (by decide +kernel)⟩
theorem lw_p12 : lw_okq (⟨"java/lang/Throwable", "fillInStackTrace", "(I)Ljava/lang/Throwable;"⟩, 6) := ⟨⟨by decide +kernel, by decide +kernel⟩, List.mem_of_getElem? (i := 554) (by decide +kernel), List.mem_of_getElem? (i := 552) (by decide +kernel), List.mem_of_getElem? (i := 553) (by decide +kernel)⟩
theorem lw_p13 : lw_okq (⟨"Chipfold", "beginAgain", "()V"⟩, 11) := ⟨⟨by decide +kernel, by decide +kernel⟩, List.mem_of_getElem? (i := 38) (by decide +kernel), List.mem_of_getElem? (i := 588) (by decide +kernel), List.mem_of_getElem? (i := 589) (by decide +kernel)⟩
theorem lw_p14 : lw_okq (⟨"Chipfold", "needVertex", "(I)V"⟩, 11) := ⟨⟨by decide +kernel, by decide +kernel⟩, List.mem_of_getElem? (i := 38) (by decide +kernel), List.mem_of_getElem? (i := 634) (by decide +kernel), List.mem_of_getElem? (i := 635) (by decide +kernel)⟩
theorem lw_p15 : lw_okq (⟨"Chipfold$Graph", "joinOneWay", "(III)V"⟩, 4) := ⟨⟨by decide +kernel, by decide +kernel⟩, List.mem_of_getElem? (i := 46) (by decide +kernel), List.mem_of_getElem? (i := 677) (by decide +kernel), List.mem_of_getElem? (i := 678) (by decide +kernel)⟩
def lw_privs_1 : List (MethodName × Nat) := [(⟨"Chipfold$Graph", "neighboursOf", "(I)I"⟩, 4), (⟨"Chipfold$Group", "minor", "(II)J"⟩, 3), (⟨"Chipfold$Group", "entry", "(II)I"⟩, 3), (⟨"Chipfold$Matrix", "pivotRow", "(II)I"⟩, 1), (⟨"Chipfold$Matrix", "swapRows", "(III)V"⟩, 1), (⟨"Chipfold$Matrix", "clearBelow", "(IIJ)V"⟩, 1), (⟨"Chipfold", "settlesAlikeFromAbove", "()Z"⟩, 11), (⟨"Chipfold$Debts", "writeRest", "()V"⟩, 7), (⟨"Chipfold$Debts", "findMissing", "(LChipfold$Row;)V"⟩, 7), (⟨"Chipfold$Debts", "rankWithLosses", "(III)I"⟩, 7), (⟨"Chipfold$Debts", "sinkReduced", "(ILChipfold$Pile;)I"⟩, 7), (⟨"Chipfold$Debts", "nextLosses", "()Z"⟩, 7), (⟨"java/lang/Throwable", "fillInStackTrace", "(I)Ljava/lang/Throwable;"⟩, 6), (⟨"Chipfold", "beginAgain", "()V"⟩, 11), (⟨"Chipfold", "needVertex", "(I)V"⟩, 11), (⟨"Chipfold$Graph", "joinOneWay", "(III)V"⟩, 4)]
theorem lw_r1 : ∀ q ∈ lw_privs_1, lw_okq q := List.forall_mem_cons.mpr ⟨lw_p0, List.forall_mem_cons.mpr ⟨lw_p1, List.forall_mem_cons.mpr ⟨lw_p2, List.forall_mem_cons.mpr ⟨lw_p3, List.forall_mem_cons.mpr ⟨lw_p4, List.forall_mem_cons.mpr ⟨lw_p5, List.forall_mem_cons.mpr ⟨lw_p6, List.forall_mem_cons.mpr ⟨lw_p7, List.forall_mem_cons.mpr ⟨lw_p8, List.forall_mem_cons.mpr ⟨lw_p9, List.forall_mem_cons.mpr ⟨lw_p10, List.forall_mem_cons.mpr ⟨lw_p11, List.forall_mem_cons.mpr ⟨lw_p12, List.forall_mem_cons.mpr ⟨lw_p13, List.forall_mem_cons.mpr ⟨lw_p14, List.forall_mem_cons.mpr ⟨lw_p15, fun _ h => absurd h List.not_mem_nil⟩⟩⟩⟩⟩⟩⟩⟩⟩⟩⟩⟩⟩⟩⟩⟩
theorem lw_p16 : lw_okq (⟨"Chipfold", "needWhole", "()V"⟩, 11) := ⟨⟨by decide +kernel, by decide +kernel⟩, List.mem_of_getElem? (i := 38) (by decide +kernel), List.mem_of_getElem? (i := 756) (by decide +kernel), List.mem_of_getElem? (i := 757) (by decide +kernel)⟩
theorem lw_p17 : lw_okq (⟨"Chipfold$Pile", "unburntEdges", "(ILChipfold$Row;)I"⟩, 4) := ⟨⟨by decide +kernel, by decide +kernel⟩, List.mem_of_getElem? (i := 82) (by decide +kernel), List.mem_of_getElem? (i := 801) (by decide +kernel), List.mem_of_getElem? (i := 802) (by decide +kernel)⟩
theorem lw_p18 : lw_okq (⟨"Chipfold$Group", "divisorOfMinors", "(I)J"⟩, 3) := ⟨⟨by decide +kernel, by decide +kernel⟩, List.mem_of_getElem? (i := 120) (by decide +kernel), List.mem_of_getElem? (i := 848) (by decide +kernel), List.mem_of_getElem? (i := 849) (by decide +kernel)⟩
theorem lw_p19 : lw_okq (⟨"Chipfold$Group", "determinantWith", "(LChipfold$Pile;I)J"⟩, 3) := ⟨⟨by decide +kernel, by decide +kernel⟩, List.mem_of_getElem? (i := 120) (by decide +kernel), List.mem_of_getElem? (i := 891) (by decide +kernel), List.mem_of_getElem? (i := 892) (by decide +kernel)⟩
theorem lw_p20 : lw_okq (⟨"Chipfold$Rotors", "turn", "(I)V"⟩, 3) := ⟨⟨by decide +kernel, by decide +kernel⟩, List.mem_of_getElem? (i := 161) (by decide +kernel), List.mem_of_getElem? (i := 919) (by decide +kernel), List.mem_of_getElem? (i := 920) (by decide +kernel)⟩
theorem lw_p21 : lw_okq (⟨"Chipfold$Drawing", "toppleCell", "(I)I"⟩, 2) := ⟨⟨by decide +kernel, by decide +kernel⟩, List.mem_of_getElem? (i := 211) (by decide +kernel), List.mem_of_getElem? (i := 1040) (by decide +kernel), List.mem_of_getElem? (i := 1041) (by decide +kernel)⟩
theorem lw_p22 : lw_okq (⟨"ChipfoldModel", "begin", "()V"⟩, 12) := ⟨⟨by decide +kernel, by decide +kernel⟩, List.mem_of_getElem? (i := 1114) (by decide +kernel), List.mem_of_getElem? (i := 1167) (by decide +kernel), List.mem_of_getElem? (i := 1168) (by decide +kernel)⟩
theorem lw_p23 : lw_okq (⟨"ChipfoldModel", "isVertex", "(I)Z"⟩, 12) := ⟨⟨by decide +kernel, by decide +kernel⟩, List.mem_of_getElem? (i := 1114) (by decide +kernel), List.mem_of_getElem? (i := 1175) (by decide +kernel), List.mem_of_getElem? (i := 1176) (by decide +kernel)⟩
theorem lw_p24 : lw_okq (⟨"ChipfoldModel", "wrongVertex", "(I)I"⟩, 12) := ⟨⟨by decide +kernel, by decide +kernel⟩, List.mem_of_getElem? (i := 1114) (by decide +kernel), List.mem_of_getElem? (i := 1186) (by decide +kernel), List.mem_of_getElem? (i := 1187) (by decide +kernel)⟩
theorem lw_p25 : lw_okq (⟨"ChipfoldModel", "degreeOf", "(I)I"⟩, 12) := ⟨⟨by decide +kernel, by decide +kernel⟩, List.mem_of_getElem? (i := 1114) (by decide +kernel), List.mem_of_getElem? (i := 1194) (by decide +kernel), List.mem_of_getElem? (i := 1195) (by decide +kernel)⟩
theorem lw_p26 : lw_okq (⟨"ChipfoldModel", "whole", "()Z"⟩, 12) := ⟨⟨by decide +kernel, by decide +kernel⟩, List.mem_of_getElem? (i := 1114) (by decide +kernel), List.mem_of_getElem? (i := 1202) (by decide +kernel), List.mem_of_getElem? (i := 1203) (by decide +kernel)⟩
theorem lw_p27 : lw_okq (⟨"ChipfoldModel", "reach", "(I[Z)V"⟩, 12) := ⟨⟨by decide +kernel, by decide +kernel⟩, List.mem_of_getElem? (i := 1114) (by decide +kernel), List.mem_of_getElem? (i := 1206) (by decide +kernel), List.mem_of_getElem? (i := 1207) (by decide +kernel)⟩
theorem lw_p28 : lw_okq (⟨"ChipfoldModel", "can", "([II)Z"⟩, 12) := ⟨⟨by decide +kernel, by decide +kernel⟩, List.mem_of_getElem? (i := 1114) (by decide +kernel), List.mem_of_getElem? (i := 1223) (by decide +kernel), List.mem_of_getElem? (i := 1224) (by decide +kernel)⟩
theorem lw_p29 : lw_okq (⟨"ChipfoldModel", "topples", "([III)V"⟩, 12) := ⟨⟨by decide +kernel, by decide +kernel⟩, List.mem_of_getElem? (i := 1114) (by decide +kernel), List.mem_of_getElem? (i := 1227) (by decide +kernel), List.mem_of_getElem? (i := 1228) (by decide +kernel)⟩
theorem lw_p30 : lw_okq (⟨"ChipfoldModel", "swallow", "()V"⟩, 12) := ⟨⟨by decide +kernel, by decide +kernel⟩, List.mem_of_getElem? (i := 1114) (by decide +kernel), List.mem_of_getElem? (i := 1231) (by decide +kernel), List.mem_of_getElem? (i := 1232) (by decide +kernel)⟩
theorem lw_p31 : lw_okq (⟨"ChipfoldModel", "wrongWhole", "()I"⟩, 12) := ⟨⟨by decide +kernel, by decide +kernel⟩, List.mem_of_getElem? (i := 1114) (by decide +kernel), List.mem_of_getElem? (i := 1239) (by decide +kernel), List.mem_of_getElem? (i := 1240) (by decide +kernel)⟩
def lw_privs_2 : List (MethodName × Nat) := [(⟨"Chipfold", "needWhole", "()V"⟩, 11), (⟨"Chipfold$Pile", "unburntEdges", "(ILChipfold$Row;)I"⟩, 4), (⟨"Chipfold$Group", "divisorOfMinors", "(I)J"⟩, 3), (⟨"Chipfold$Group", "determinantWith", "(LChipfold$Pile;I)J"⟩, 3), (⟨"Chipfold$Rotors", "turn", "(I)V"⟩, 3), (⟨"Chipfold$Drawing", "toppleCell", "(I)I"⟩, 2), (⟨"ChipfoldModel", "begin", "()V"⟩, 12), (⟨"ChipfoldModel", "isVertex", "(I)Z"⟩, 12), (⟨"ChipfoldModel", "wrongVertex", "(I)I"⟩, 12), (⟨"ChipfoldModel", "degreeOf", "(I)I"⟩, 12), (⟨"ChipfoldModel", "whole", "()Z"⟩, 12), (⟨"ChipfoldModel", "reach", "(I[Z)V"⟩, 12), (⟨"ChipfoldModel", "can", "([II)Z"⟩, 12), (⟨"ChipfoldModel", "topples", "([III)V"⟩, 12), (⟨"ChipfoldModel", "swallow", "()V"⟩, 12), (⟨"ChipfoldModel", "wrongWhole", "()I"⟩, 12)]
theorem lw_r2 : ∀ q ∈ lw_privs_2, lw_okq q := List.forall_mem_cons.mpr ⟨lw_p16, List.forall_mem_cons.mpr ⟨lw_p17, List.forall_mem_cons.mpr ⟨lw_p18, List.forall_mem_cons.mpr ⟨lw_p19, List.forall_mem_cons.mpr ⟨lw_p20, List.forall_mem_cons.mpr ⟨lw_p21, List.forall_mem_cons.mpr ⟨lw_p22, List.forall_mem_cons.mpr ⟨lw_p23, List.forall_mem_cons.mpr ⟨lw_p24, List.forall_mem_cons.mpr ⟨lw_p25, List.forall_mem_cons.mpr ⟨lw_p26, List.forall_mem_cons.mpr ⟨lw_p27, List.forall_mem_cons.mpr ⟨lw_p28, List.forall_mem_cons.mpr ⟨lw_p29, List.forall_mem_cons.mpr ⟨lw_p30, List.forall_mem_cons.mpr ⟨lw_p31, fun _ h => absurd h List.not_mem_nil⟩⟩⟩⟩⟩⟩⟩⟩⟩⟩⟩⟩⟩⟩⟩⟩
theorem lw_p32 : lw_okq (⟨"ChipfoldModel", "settles", "([I[I)I"⟩, 12) := ⟨⟨by decide +kernel, by decide +kernel⟩, List.mem_of_getElem? (i := 1114) (by decide +kernel), List.mem_of_getElem? (i := 1243) (by decide +kernel), List.mem_of_getElem? (i := 1244) (by decide +kernel)⟩
theorem lw_p33 : lw_okq (⟨"ChipfoldModel", "plain", "(I)I"⟩, 12) := ⟨⟨by decide +kernel, by decide +kernel⟩, List.mem_of_getElem? (i := 1114) (by decide +kernel), List.mem_of_getElem? (i := 1266) (by decide +kernel), List.mem_of_getElem? (i := 1267) (by decide +kernel)⟩
theorem lw_p34 : lw_okq (⟨"ChipfoldModel", "burnsAll", "([I)Z"⟩, 12) := ⟨⟨by decide +kernel, by decide +kernel⟩, List.mem_of_getElem? (i := 1114) (by decide +kernel), List.mem_of_getElem? (i := 1274) (by decide +kernel), List.mem_of_getElem? (i := 1275) (by decide +kernel)⟩
theorem lw_p35 : lw_okq (⟨"ChipfoldModel", "fire", "([I)[I"⟩, 12) := ⟨⟨by decide +kernel, by decide +kernel⟩, List.mem_of_getElem? (i := 1114) (by decide +kernel), List.mem_of_getElem? (i := 1278) (by decide +kernel), List.mem_of_getElem? (i := 1279) (by decide +kernel)⟩
theorem lw_p36 : lw_okq (⟨"ChipfoldModel", "unburnt", "(I[I)I"⟩, 12) := ⟨⟨by decide +kernel, by decide +kernel⟩, List.mem_of_getElem? (i := 1114) (by decide +kernel), List.mem_of_getElem? (i := 1285) (by decide +kernel), List.mem_of_getElem? (i := 1286) (by decide +kernel)⟩
theorem lw_p37 : lw_okq (⟨"ChipfoldModel", "units", "()[I"⟩, 12) := ⟨⟨by decide +kernel, by decide +kernel⟩, List.mem_of_getElem? (i := 1114) (by decide +kernel), List.mem_of_getElem? (i := 1297) (by decide +kernel), List.mem_of_getElem? (i := 1298) (by decide +kernel)⟩
theorem lw_p38 : lw_okq (⟨"ChipfoldModel", "allTrees", "()J"⟩, 12) := ⟨⟨by decide +kernel, by decide +kernel⟩, List.mem_of_getElem? (i := 1114) (by decide +kernel), List.mem_of_getElem? (i := 1309) (by decide +kernel), List.mem_of_getElem? (i := 1310) (by decide +kernel)⟩
theorem lw_p39 : lw_okq (⟨"ChipfoldModel", "rows", "()[[J"⟩, 12) := ⟨⟨by decide +kernel, by decide +kernel⟩, List.mem_of_getElem? (i := 1114) (by decide +kernel), List.mem_of_getElem? (i := 1313) (by decide +kernel), List.mem_of_getElem? (i := 1314) (by decide +kernel)⟩
theorem lw_p40 : lw_okq (⟨"ChipfoldModel", "allFactors", "()Ljava/util/ArrayList;"⟩, 12) := ⟨⟨by decide +kernel, by decide +kernel⟩, List.mem_of_getElem? (i := 1114) (by decide +kernel), List.mem_of_getElem? (i := 1333) (by decide +kernel), List.mem_of_getElem? (i := 1334) (by decide +kernel)⟩
theorem lw_p41 : lw_okq (⟨"java/util/ArrayList", "add", "(Ljava/lang/Object;[Ljava/lang/Object;I)V"⟩, 3) := ⟨⟨by decide +kernel, by decide +kernel⟩, List.mem_of_getElem? (i := 1337) (by decide +kernel), List.mem_of_getElem? (i := 1387) (by decide +kernel), List.mem_of_getElem? (i := 1388) (by decide +kernel)⟩
theorem lw_p42 : lw_okq (⟨"java/util/ArrayList", "grow", "()[Ljava/lang/Object;"⟩, 3) := ⟨⟨by decide +kernel, by decide +kernel⟩, List.mem_of_getElem? (i := 1337) (by decide +kernel), List.mem_of_getElem? (i := 1391) (by decide +kernel), List.mem_of_getElem? (i := 1392) (by decide +kernel)⟩
theorem lw_p43 : lw_okq (⟨"java/util/ArrayList", "grow", "(I)[Ljava/lang/Object;"⟩, 3) := ⟨⟨by decide +kernel, by decide +kernel⟩, List.mem_of_getElem? (i := 1337) (by decide +kernel), List.mem_of_getElem? (i := 1395) (by decide +kernel), List.mem_of_getElem? (i := 1396) (by decide +kernel)⟩
theorem lw_p44 : lw_okq (⟨"ChipfoldModel", "isNothing", "(JJ)Z"⟩, 12) := ⟨⟨by decide +kernel, by decide +kernel⟩, List.mem_of_getElem? (i := 1114) (by decide +kernel), List.mem_of_getElem? (i := 1484) (by decide +kernel), List.mem_of_getElem? (i := 1485) (by decide +kernel)⟩
theorem lw_p45 : lw_okq (⟨"ChipfoldModel", "pointed", "(I)I"⟩, 12) := ⟨⟨by decide +kernel, by decide +kernel⟩, List.mem_of_getElem? (i := 1114) (by decide +kernel), List.mem_of_getElem? (i := 1495) (by decide +kernel), List.mem_of_getElem? (i := 1496) (by decide +kernel)⟩
theorem lw_p46 : lw_okq (⟨"ChipfoldModel", "reducedBy", "([I)[I"⟩, 12) := ⟨⟨by decide +kernel, by decide +kernel⟩, List.mem_of_getElem? (i := 1114) (by decide +kernel), List.mem_of_getElem? (i := 1527) (by decide +kernel), List.mem_of_getElem? (i := 1528) (by decide +kernel)⟩
theorem lw_p47 : lw_okq (⟨"ChipfoldModel", "nothing", "()[I"⟩, 12) := ⟨⟨by decide +kernel, by decide +kernel⟩, List.mem_of_getElem? (i := 1114) (by decide +kernel), List.mem_of_getElem? (i := 1531) (by decide +kernel), List.mem_of_getElem? (i := 1532) (by decide +kernel)⟩
def lw_privs_3 : List (MethodName × Nat) := [(⟨"ChipfoldModel", "settles", "([I[I)I"⟩, 12), (⟨"ChipfoldModel", "plain", "(I)I"⟩, 12), (⟨"ChipfoldModel", "burnsAll", "([I)Z"⟩, 12), (⟨"ChipfoldModel", "fire", "([I)[I"⟩, 12), (⟨"ChipfoldModel", "unburnt", "(I[I)I"⟩, 12), (⟨"ChipfoldModel", "units", "()[I"⟩, 12), (⟨"ChipfoldModel", "allTrees", "()J"⟩, 12), (⟨"ChipfoldModel", "rows", "()[[J"⟩, 12), (⟨"ChipfoldModel", "allFactors", "()Ljava/util/ArrayList;"⟩, 12), (⟨"java/util/ArrayList", "add", "(Ljava/lang/Object;[Ljava/lang/Object;I)V"⟩, 3), (⟨"java/util/ArrayList", "grow", "()[Ljava/lang/Object;"⟩, 3), (⟨"java/util/ArrayList", "grow", "(I)[Ljava/lang/Object;"⟩, 3), (⟨"ChipfoldModel", "isNothing", "(JJ)Z"⟩, 12), (⟨"ChipfoldModel", "pointed", "(I)I"⟩, 12), (⟨"ChipfoldModel", "reducedBy", "([I)[I"⟩, 12), (⟨"ChipfoldModel", "nothing", "()[I"⟩, 12)]
theorem lw_r3 : ∀ q ∈ lw_privs_3, lw_okq q := List.forall_mem_cons.mpr ⟨lw_p32, List.forall_mem_cons.mpr ⟨lw_p33, List.forall_mem_cons.mpr ⟨lw_p34, List.forall_mem_cons.mpr ⟨lw_p35, List.forall_mem_cons.mpr ⟨lw_p36, List.forall_mem_cons.mpr ⟨lw_p37, List.forall_mem_cons.mpr ⟨lw_p38, List.forall_mem_cons.mpr ⟨lw_p39, List.forall_mem_cons.mpr ⟨lw_p40, List.forall_mem_cons.mpr ⟨lw_p41, List.forall_mem_cons.mpr ⟨lw_p42, List.forall_mem_cons.mpr ⟨lw_p43, List.forall_mem_cons.mpr ⟨lw_p44, List.forall_mem_cons.mpr ⟨lw_p45, List.forall_mem_cons.mpr ⟨lw_p46, List.forall_mem_cons.mpr ⟨lw_p47, fun _ h => absurd h List.not_mem_nil⟩⟩⟩⟩⟩⟩⟩⟩⟩⟩⟩⟩⟩⟩⟩⟩
theorem lw_p48 : lw_okq (⟨"ChipfoldModel", "fireOut", "([I)[I"⟩, 12) := ⟨⟨by decide +kernel, by decide +kernel⟩, List.mem_of_getElem? (i := 1114) (by decide +kernel), List.mem_of_getElem? (i := 1536) (by decide +kernel), List.mem_of_getElem? (i := 1537) (by decide +kernel)⟩
theorem lw_p49 : lw_okq (⟨"ChipfoldModel", "canBePaid", "([I)Z"⟩, 12) := ⟨⟨by decide +kernel, by decide +kernel⟩, List.mem_of_getElem? (i := 1114) (by decide +kernel), List.mem_of_getElem? (i := 1544) (by decide +kernel), List.mem_of_getElem? (i := 1545) (by decide +kernel)⟩
theorem lw_p50 : lw_okq (⟨"ChipfoldModel", "canLose", "([III)Z"⟩, 12) := ⟨⟨by decide +kernel, by decide +kernel⟩, List.mem_of_getElem? (i := 1114) (by decide +kernel), List.mem_of_getElem? (i := 1555) (by decide +kernel), List.mem_of_getElem? (i := 1556) (by decide +kernel)⟩
def lw_privs_4 : List (MethodName × Nat) := [(⟨"ChipfoldModel", "fireOut", "([I)[I"⟩, 12), (⟨"ChipfoldModel", "canBePaid", "([I)Z"⟩, 12), (⟨"ChipfoldModel", "canLose", "([III)Z"⟩, 12)]
theorem lw_r4 : ∀ q ∈ lw_privs_4, lw_okq q := List.forall_mem_cons.mpr ⟨lw_p48, List.forall_mem_cons.mpr ⟨lw_p49, List.forall_mem_cons.mpr ⟨lw_p50, fun _ h => absurd h List.not_mem_nil⟩⟩⟩
def lw_privs : List (MethodName × Nat) := lw_privs_1 ++ (lw_privs_2 ++ (lw_privs_3 ++ (lw_privs_4)))
def lw_tbl : List Cond := k2_sels lw_privs ++ tables_1
theorem lw_privs_ok : ∀ q ∈ lw_privs, lw_okq q := by
  show ∀ q ∈ lw_privs_1 ++ (lw_privs_2 ++ (lw_privs_3 ++ (lw_privs_4))), lw_okq q
  exact List.forall_mem_append.mpr ⟨lw_r1, List.forall_mem_append.mpr ⟨lw_r2, List.forall_mem_append.mpr ⟨lw_r3, lw_r4⟩⟩⟩
/-- the streams that the claim lets the run draw from -/
abbrev lw_cs : List Choice := [Jvm.Choice.named "NaN.bits"]
theorem lw_bits : nanBits ∈ lw_cs := by first | decide | exact List.mem_cons_self | simp [lw_cs, nanBits]
end
section
def RX0 : String := "Chipfold$Debts"
def TX0 : u_T := fun k => match k with
  | 0 => ("Chipfold$Debts", "graph", "LChipfold$Graph;", true)
  | 1 => ("Chipfold$Debts", "finder", "LChipfold$Finder;", true)
  | 2 => ("Chipfold$Debts", "owned", "LChipfold$Row;", true)
  | 3 => ("Chipfold$Debts", "rest", "LChipfold$Row;", true)
  | 4 => ("Chipfold$Debts", "missing", "LChipfold$Row;", true)
  | 5 => ("Chipfold$Debts", "losses", "LChipfold$Row;", true)
  | _ => ("Chipfold$Debts", "poorer", "LChipfold$Pile;", true)
def tyX0 : Nat → FieldType := fun k => match k with
  | 0 => .object "Chipfold$Graph"
  | 1 => .object "Chipfold$Finder"
  | 2 => .object "Chipfold$Row"
  | 3 => .object "Chipfold$Row"
  | 4 => .object "Chipfold$Row"
  | 5 => .object "Chipfold$Row"
  | _ => .object "Chipfold$Pile"
theorem nmX0 : ∀ a, a < 7 → ∀ b, b < 7 → a ≠ b → (TX0 a).2.1 ≠ (TX0 b).2.1 := by decide +kernel
theorem tyX0_ok : ∀ k, k < 7 → parseFieldDescriptor (TX0 k).2.2.1 = some (tyX0 k) := by decide +kernel
abbrev cX0_init : ByteArray := prog_2_method_1_code
def yX0_init : MethodName := ⟨RX0, "<init>", "(LChipfold$Graph;LChipfold$Finder;)V"⟩
abbrev cX0_clear : ByteArray := prog_2_method_2_code
def yX0_clear : MethodName := ⟨RX0, "clear", "()V"⟩
abbrev cX0_at : ByteArray := prog_2_method_3_code
def yX0_at : MethodName := ⟨RX0, "at", "(I)I"⟩
abbrev cX0_write : ByteArray := prog_2_method_4_code
def yX0_write : MethodName := ⟨RX0, "write", "(II)V"⟩
abbrev cX0_total : ByteArray := prog_2_method_5_code
def yX0_total : MethodName := ⟨RX0, "total", "()I"⟩
abbrev cX0_afterDeal : ByteArray := prog_2_method_6_code
def yX0_afterDeal : MethodName := ⟨RX0, "afterDeal", "(III)I"⟩
abbrev cX0_reducedAt : ByteArray := prog_2_method_7_code
def yX0_reducedAt : MethodName := ⟨RX0, "reducedAt", "(I)I"⟩
abbrev cX0_findMissing : ByteArray := prog_2_method_8_code
def yX0_findMissing : MethodName := ⟨RX0, "findMissing", "(LChipfold$Row;)V"⟩
abbrev cX0_sinkReduced : ByteArray := prog_2_method_9_code
def yX0_sinkReduced : MethodName := ⟨RX0, "sinkReduced", "(ILChipfold$Pile;)I"⟩
abbrev cX0_canRankBoth : ByteArray := prog_2_method_10_code
def yX0_canRankBoth : MethodName := ⟨RX0, "canRankBoth", "()Z"⟩
abbrev cX0_writeRest : ByteArray := prog_2_method_11_code
def yX0_writeRest : MethodName := ⟨RX0, "writeRest", "()V"⟩
abbrev cX0_rankOf : ByteArray := prog_2_method_12_code
def yX0_rankOf : MethodName := ⟨RX0, "rankOf", "(Z)I"⟩
abbrev cX0_rankWithLosses : ByteArray := prog_2_method_13_code
def yX0_rankWithLosses : MethodName := ⟨RX0, "rankWithLosses", "(III)I"⟩
abbrev cX0_nextLosses : ByteArray := prog_2_method_14_code
def yX0_nextLosses : MethodName := ⟨RX0, "nextLosses", "()Z"⟩
def RX1 : String := "Chipfold$Drawing"
def TX1 : u_T := fun k => match k with
  | 0 => ("Chipfold$Drawing", "cells", "LChipfold$Row;", true)
  | _ => ("Chipfold$Drawing", "width", "I", false)
def tyX1 : Nat → FieldType := fun k => match k with
  | 0 => .object "Chipfold$Row"
  | _ => .int
theorem nmX1 : ∀ a, a < 2 → ∀ b, b < 2 → a ≠ b → (TX1 a).2.1 ≠ (TX1 b).2.1 := by decide +kernel
theorem tyX1_ok : ∀ k, k < 2 → parseFieldDescriptor (TX1 k).2.2.1 = some (tyX1 k) := by decide +kernel
abbrev cX1_init : ByteArray := prog_3_method_1_code
def yX1_init : MethodName := ⟨RX1, "<init>", "()V"⟩
abbrev cX1_cellNumber : ByteArray := prog_3_method_2_code
def yX1_cellNumber : MethodName := ⟨RX1, "cellNumber", "()I"⟩
abbrev cX1_at : ByteArray := prog_3_method_3_code
def yX1_at : MethodName := ⟨RX1, "at", "(I)I"⟩
abbrev cX1_draw : ByteArray := prog_3_method_4_code
def yX1_draw : MethodName := ⟨RX1, "draw", "(II)I"⟩
abbrev cX1_toppleCell : ByteArray := prog_3_method_5_code
def yX1_toppleCell : MethodName := ⟨RX1, "toppleCell", "(I)I"⟩
def RX2 : String := "Chipfold$Finder"
def TX2 : u_T := fun k => match k with
  | 0 => ("Chipfold$Finder", "graph", "LChipfold$Graph;", true)
  | 1 => ("Chipfold$Finder", "found", "LChipfold$Pile;", true)
  | 2 => ("Chipfold$Finder", "degreesSettled", "LChipfold$Pile;", true)
  | _ => ("Chipfold$Finder", "zeros", "LChipfold$Row;", true)
def tyX2 : Nat → FieldType := fun k => match k with
  | 0 => .object "Chipfold$Graph"
  | 1 => .object "Chipfold$Pile"
  | 2 => .object "Chipfold$Pile"
  | _ => .object "Chipfold$Row"
theorem nmX2 : ∀ a, a < 4 → ∀ b, b < 4 → a ≠ b → (TX2 a).2.1 ≠ (TX2 b).2.1 := by decide +kernel
theorem tyX2_ok : ∀ k, k < 4 → parseFieldDescriptor (TX2 k).2.2.1 = some (tyX2 k) := by decide +kernel
abbrev cX2_init : ByteArray := prog_4_method_1_code
def yX2_init : MethodName := ⟨RX2, "<init>", "(LChipfold$Graph;)V"⟩
abbrev cX2_at : ByteArray := prog_4_method_2_code
def yX2_at : MethodName := ⟨RX2, "at", "(I)I"⟩
abbrev cX2_pileFound : ByteArray := prog_4_method_3_code
def yX2_pileFound : MethodName := ⟨RX2, "pileFound", "()LChipfold$Pile;"⟩
abbrev cX2_findUnit : ByteArray := prog_4_method_4_code
def yX2_findUnit : MethodName := ⟨RX2, "findUnit", "()V"⟩
abbrev cX2_find : ByteArray := prog_4_method_5_code
def yX2_find : MethodName := ⟨RX2, "find", "(LChipfold$Row;)V"⟩
def RX3 : String := "Chipfold$Graph"
def TX3 : u_T := fun k => match k with
  | 0 => ("Chipfold$Graph", "joined", "[I", true)
  | 1 => ("Chipfold$Graph", "degrees", "[I", true)
  | 2 => ("Chipfold$Graph", "vertices", "I", false)
  | _ => ("Chipfold$Graph", "sinkNow", "I", false)
def tyX3 : Nat → FieldType := fun k => match k with
  | 0 => .array .int
  | 1 => .array .int
  | 2 => .int
  | _ => .int
theorem nmX3 : ∀ a, a < 4 → ∀ b, b < 4 → a ≠ b → (TX3 a).2.1 ≠ (TX3 b).2.1 := by decide +kernel
theorem tyX3_ok : ∀ k, k < 4 → parseFieldDescriptor (TX3 k).2.2.1 = some (tyX3 k) := by decide +kernel
abbrev cX3_init : ByteArray := prog_5_method_1_code
def yX3_init : MethodName := ⟨RX3, "<init>", "()V"⟩
abbrev cX3_size : ByteArray := prog_5_method_2_code
def yX3_size : MethodName := ⟨RX3, "size", "()I"⟩
abbrev cX3_has : ByteArray := prog_5_method_3_code
def yX3_has : MethodName := ⟨RX3, "has", "(I)Z"⟩
abbrev cX3_grow : ByteArray := prog_5_method_4_code
def yX3_grow : MethodName := ⟨RX3, "grow", "()I"⟩
abbrev cX3_between : ByteArray := prog_5_method_5_code
def yX3_between : MethodName := ⟨RX3, "between", "(II)I"⟩
abbrev cX3_join : ByteArray := prog_5_method_6_code
def yX3_join : MethodName := ⟨RX3, "join", "(III)V"⟩
abbrev cX3_joinOneWay : ByteArray := prog_5_method_7_code
def yX3_joinOneWay : MethodName := ⟨RX3, "joinOneWay", "(III)V"⟩
abbrev cX3_sinkVertex : ByteArray := prog_5_method_8_code
def yX3_sinkVertex : MethodName := ⟨RX3, "sinkVertex", "()I"⟩
abbrev cX3_isSink : ByteArray := prog_5_method_9_code
def yX3_isSink : MethodName := ⟨RX3, "isSink", "(I)Z"⟩
abbrev cX3_moveSink : ByteArray := prog_5_method_10_code
def yX3_moveSink : MethodName := ⟨RX3, "moveSink", "(I)V"⟩
abbrev cX3_degreeOf : ByteArray := prog_5_method_11_code
def yX3_degreeOf : MethodName := ⟨RX3, "degreeOf", "(I)I"⟩
abbrev cX3_edgeNumber : ByteArray := prog_5_method_12_code
def yX3_edgeNumber : MethodName := ⟨RX3, "edgeNumber", "()I"⟩
abbrev cX3_others : ByteArray := prog_5_method_13_code
def yX3_others : MethodName := ⟨RX3, "others", "()I"⟩
abbrev cX3_otherAt : ByteArray := prog_5_method_14_code
def yX3_otherAt : MethodName := ⟨RX3, "otherAt", "(I)I"⟩
abbrev cX3_isConnected : ByteArray := prog_5_method_15_code
def yX3_isConnected : MethodName := ⟨RX3, "isConnected", "()Z"⟩
abbrev cX3_neighboursOf : ByteArray := prog_5_method_16_code
def yX3_neighboursOf : MethodName := ⟨RX3, "neighboursOf", "(I)I"⟩
abbrev cX3_endOf : ByteArray := prog_5_method_17_code
def yX3_endOf : MethodName := ⟨RX3, "endOf", "(II)I"⟩
def RX4 : String := "Chipfold$Group"
def TX4 : u_T := fun k => match k with
  | 0 => ("Chipfold$Group", "graph", "LChipfold$Graph;", true)
  | 1 => ("Chipfold$Group", "matrix", "LChipfold$Matrix;", true)
  | _ => ("Chipfold$Group", "found", "LChipfold$Row;", true)
def tyX4 : Nat → FieldType := fun k => match k with
  | 0 => .object "Chipfold$Graph"
  | 1 => .object "Chipfold$Matrix"
  | _ => .object "Chipfold$Row"
theorem nmX4 : ∀ a, a < 3 → ∀ b, b < 3 → a ≠ b → (TX4 a).2.1 ≠ (TX4 b).2.1 := by decide +kernel
theorem tyX4_ok : ∀ k, k < 3 → parseFieldDescriptor (TX4 k).2.2.1 = some (tyX4 k) := by decide +kernel
abbrev cX4_init : ByteArray := prog_6_method_1_code
def yX4_init : MethodName := ⟨RX4, "<init>", "(LChipfold$Graph;)V"⟩
abbrev cX4_entry : ByteArray := prog_6_method_2_code
def yX4_entry : MethodName := ⟨RX4, "entry", "(II)I"⟩
abbrev cX4_minor : ByteArray := prog_6_method_3_code
def yX4_minor : MethodName := ⟨RX4, "minor", "(II)J"⟩
abbrev cX4_treeNumber : ByteArray := prog_6_method_4_code
def yX4_treeNumber : MethodName := ⟨RX4, "treeNumber", "()J"⟩
abbrev cX4_findFactors : ByteArray := prog_6_method_5_code
def yX4_findFactors : MethodName := ⟨RX4, "findFactors", "()I"⟩
abbrev cX4_factorFound : ByteArray := prog_6_method_6_code
def yX4_factorFound : MethodName := ⟨RX4, "factorFound", "(I)I"⟩
abbrev cX4_divisorOfMinors : ByteArray := prog_6_method_7_code
def yX4_divisorOfMinors : MethodName := ⟨RX4, "divisorOfMinors", "(I)J"⟩
abbrev cX4_orderOf : ByteArray := prog_6_method_8_code
def yX4_orderOf : MethodName := ⟨RX4, "orderOf", "(LChipfold$Pile;)J"⟩
abbrev cX4_determinantWith : ByteArray := prog_6_method_9_code
def yX4_determinantWith : MethodName := ⟨RX4, "determinantWith", "(LChipfold$Pile;I)J"⟩
abbrev cX4_commonDivisor : ByteArray := prog_6_method_10_code
def yX4_commonDivisor : MethodName := ⟨RX4, "commonDivisor", "(JJ)J"⟩
def RX5 : String := "Chipfold$Matrix"
def TX5 : u_T := fun k => match k with
  | _ => ("Chipfold$Matrix", "cells", "[J", true)
def tyX5 : Nat → FieldType := fun k => match k with
  | _ => .array .long
theorem nmX5 : ∀ a, a < 1 → ∀ b, b < 1 → a ≠ b → (TX5 a).2.1 ≠ (TX5 b).2.1 := by decide +kernel
theorem tyX5_ok : ∀ k, k < 1 → parseFieldDescriptor (TX5 k).2.2.1 = some (tyX5 k) := by decide +kernel
abbrev cX5_init : ByteArray := prog_7_method_1_code
def yX5_init : MethodName := ⟨RX5, "<init>", "()V"⟩
abbrev cX5_at : ByteArray := prog_7_method_2_code
def yX5_at : MethodName := ⟨RX5, "at", "(II)J"⟩
abbrev cX5_write : ByteArray := prog_7_method_3_code
def yX5_write : MethodName := ⟨RX5, "write", "(IIJ)V"⟩
abbrev cX5_determinant : ByteArray := prog_7_method_4_code
def yX5_determinant : MethodName := ⟨RX5, "determinant", "(I)J"⟩
abbrev cX5_pivotRow : ByteArray := prog_7_method_5_code
def yX5_pivotRow : MethodName := ⟨RX5, "pivotRow", "(II)I"⟩
abbrev cX5_swapRows : ByteArray := prog_7_method_6_code
def yX5_swapRows : MethodName := ⟨RX5, "swapRows", "(III)V"⟩
abbrev cX5_clearBelow : ByteArray := prog_7_method_7_code
def yX5_clearBelow : MethodName := ⟨RX5, "clearBelow", "(IIJ)V"⟩
def RX6 : String := "Chipfold$Pile"
def TX6 : u_T := fun k => match k with
  | 0 => ("Chipfold$Pile", "graph", "LChipfold$Graph;", true)
  | 1 => ("Chipfold$Pile", "held", "LChipfold$Row;", true)
  | 2 => ("Chipfold$Pile", "counts", "LChipfold$Row;", true)
  | _ => ("Chipfold$Pile", "taken", "I", false)
def tyX6 : Nat → FieldType := fun k => match k with
  | 0 => .object "Chipfold$Graph"
  | 1 => .object "Chipfold$Row"
  | 2 => .object "Chipfold$Row"
  | _ => .int
theorem nmX6 : ∀ a, a < 4 → ∀ b, b < 4 → a ≠ b → (TX6 a).2.1 ≠ (TX6 b).2.1 := by decide +kernel
theorem tyX6_ok : ∀ k, k < 4 → parseFieldDescriptor (TX6 k).2.2.1 = some (tyX6 k) := by decide +kernel
abbrev cX6_init : ByteArray := prog_8_method_1_code
def yX6_init : MethodName := ⟨RX6, "<init>", "(LChipfold$Graph;)V"⟩
abbrev cX6_clear : ByteArray := prog_8_method_2_code
def yX6_clear : MethodName := ⟨RX6, "clear", "()V"⟩
abbrev cX6_copyChips : ByteArray := prog_8_method_3_code
def yX6_copyChips : MethodName := ⟨RX6, "copyChips", "(LChipfold$Pile;)V"⟩
abbrev cX6_isLike : ByteArray := prog_8_method_4_code
def yX6_isLike : MethodName := ⟨RX6, "isLike", "(LChipfold$Pile;)Z"⟩
abbrev cX6_at : ByteArray := prog_8_method_5_code
def yX6_at : MethodName := ⟨RX6, "at", "(I)I"⟩
abbrev cX6_countAt : ByteArray := prog_8_method_6_code
def yX6_countAt : MethodName := ⟨RX6, "countAt", "(I)I"⟩
abbrev cX6_swallowedChips : ByteArray := prog_8_method_7_code
def yX6_swallowedChips : MethodName := ⟨RX6, "swallowedChips", "()I"⟩
abbrev cX6_total : ByteArray := prog_8_method_8_code
def yX6_total : MethodName := ⟨RX6, "total", "()I"⟩
abbrev cX6_receive : ByteArray := prog_8_method_9_code
def yX6_receive : MethodName := ⟨RX6, "receive", "(II)V"⟩
abbrev cX6_canTopple : ByteArray := prog_8_method_10_code
def yX6_canTopple : MethodName := ⟨RX6, "canTopple", "(I)Z"⟩
abbrev cX6_isSettled : ByteArray := prog_8_method_11_code
def yX6_isSettled : MethodName := ⟨RX6, "isSettled", "()Z"⟩
abbrev cX6_toppleTimes : ByteArray := prog_8_method_12_code
def yX6_toppleTimes : MethodName := ⟨RX6, "toppleTimes", "(II)V"⟩
abbrev cX6_settleAll : ByteArray := prog_8_method_13_code
def yX6_settleAll : MethodName := ⟨RX6, "settleAll", "(Z)I"⟩
abbrev cX6_toppleWave : ByteArray := prog_8_method_14_code
def yX6_toppleWave : MethodName := ⟨RX6, "toppleWave", "()Z"⟩
abbrev cX6_burn : ByteArray := prog_8_method_15_code
def yX6_burn : MethodName := ⟨RX6, "burn", "(LChipfold$Row;)V"⟩
abbrev cX6_unburntEdges : ByteArray := prog_8_method_16_code
def yX6_unburntEdges : MethodName := ⟨RX6, "unburntEdges", "(ILChipfold$Row;)I"⟩
def RX7 : String := "Chipfold$Rotors"
def TX7 : u_T := fun k => match k with
  | 0 => ("Chipfold$Rotors", "graph", "LChipfold$Graph;", true)
  | 1 => ("Chipfold$Rotors", "pointed", "LChipfold$Row;", true)
  | _ => ("Chipfold$Rotors", "visited", "LChipfold$Row;", true)
def tyX7 : Nat → FieldType := fun k => match k with
  | 0 => .object "Chipfold$Graph"
  | 1 => .object "Chipfold$Row"
  | _ => .object "Chipfold$Row"
theorem nmX7 : ∀ a, a < 3 → ∀ b, b < 3 → a ≠ b → (TX7 a).2.1 ≠ (TX7 b).2.1 := by decide +kernel
theorem tyX7_ok : ∀ k, k < 3 → parseFieldDescriptor (TX7 k).2.2.1 = some (tyX7 k) := by decide +kernel
abbrev cX7_init : ByteArray := prog_9_method_1_code
def yX7_init : MethodName := ⟨RX7, "<init>", "(LChipfold$Graph;)V"⟩
abbrev cX7_clear : ByteArray := prog_9_method_2_code
def yX7_clear : MethodName := ⟨RX7, "clear", "()V"⟩
abbrev cX7_target : ByteArray := prog_9_method_3_code
def yX7_target : MethodName := ⟨RX7, "target", "(I)I"⟩
abbrev cX7_visitsAt : ByteArray := prog_9_method_4_code
def yX7_visitsAt : MethodName := ⟨RX7, "visitsAt", "(I)I"⟩
abbrev cX7_lead : ByteArray := prog_9_method_5_code
def yX7_lead : MethodName := ⟨RX7, "lead", "(I)I"⟩
abbrev cX7_turn : ByteArray := prog_9_method_6_code
def yX7_turn : MethodName := ⟨RX7, "turn", "(I)V"⟩
abbrev cX7_leadToSink : ByteArray := prog_9_method_7_code
def yX7_leadToSink : MethodName := ⟨RX7, "leadToSink", "()Z"⟩
def RX8 : String := "Chipfold$Row"
def TX8 : u_T := fun k => match k with
  | _ => ("Chipfold$Row", "cells", "[I", true)
def tyX8 : Nat → FieldType := fun k => match k with
  | _ => .array .int
theorem nmX8 : ∀ a, a < 1 → ∀ b, b < 1 → a ≠ b → (TX8 a).2.1 ≠ (TX8 b).2.1 := by decide +kernel
theorem tyX8_ok : ∀ k, k < 1 → parseFieldDescriptor (TX8 k).2.2.1 = some (tyX8 k) := by decide +kernel
abbrev cX8_init : ByteArray := prog_10_method_1_code
def yX8_init : MethodName := ⟨RX8, "<init>", "(I)V"⟩
abbrev cX8_at : ByteArray := prog_10_method_2_code
def yX8_at : MethodName := ⟨RX8, "at", "(I)I"⟩
abbrev cX8_write : ByteArray := prog_10_method_3_code
def yX8_write : MethodName := ⟨RX8, "write", "(II)V"⟩
abbrev cX8_add : ByteArray := prog_10_method_4_code
def yX8_add : MethodName := ⟨RX8, "add", "(II)V"⟩
abbrev cX8_fill : ByteArray := prog_10_method_5_code
def yX8_fill : MethodName := ⟨RX8, "fill", "(I)V"⟩
abbrev cX8_copy : ByteArray := prog_10_method_6_code
def yX8_copy : MethodName := ⟨RX8, "copy", "(LChipfold$Row;)V"⟩
abbrev cX8_isLike : ByteArray := prog_10_method_7_code
def yX8_isLike : MethodName := ⟨RX8, "isLike", "(LChipfold$Row;)Z"⟩
abbrev cX8_sum : ByteArray := prog_10_method_8_code
def yX8_sum : MethodName := ⟨RX8, "sum", "()I"⟩
def RX9 : String := "Chipfold$TreeCount"
def TX9 : u_T := fun k => match k with
  | _ => ("Chipfold$TreeCount", "squares", "LChipfold$Row;", true)
def tyX9 : Nat → FieldType := fun k => match k with
  | _ => .object "Chipfold$Row"
theorem nmX9 : ∀ a, a < 1 → ∀ b, b < 1 → a ≠ b → (TX9 a).2.1 ≠ (TX9 b).2.1 := by decide +kernel
theorem tyX9_ok : ∀ k, k < 1 → parseFieldDescriptor (TX9 k).2.2.1 = some (tyX9 k) := by decide +kernel
abbrev cX9_init : ByteArray := prog_11_method_1_code
def yX9_init : MethodName := ⟨RX9, "<init>", "()V"⟩
abbrev cX9_countTrees : ByteArray := prog_11_method_2_code
def yX9_countTrees : MethodName := ⟨RX9, "countTrees", "(LChipfold$Graph;)J"⟩
abbrev cX9_cell : ByteArray := prog_11_method_3_code
def yX9_cell : MethodName := ⟨RX9, "cell", "(III)I"⟩
abbrev cX9_countLeft : ByteArray := prog_11_method_4_code
def yX9_countLeft : MethodName := ⟨RX9, "countLeft", "(LChipfold$Row;I)J"⟩
abbrev cX9_merge : ByteArray := prog_11_method_5_code
def yX9_merge : MethodName := ⟨RX9, "merge", "(LChipfold$Row;II)V"⟩
def RX10 : String := "Chipfold"
def TX10 : u_T := fun k => match k with
  | 0 => ("Chipfold", "graph", "LChipfold$Graph;", true)
  | 1 => ("Chipfold", "pile", "LChipfold$Pile;", true)
  | 2 => ("Chipfold", "trial", "LChipfold$Pile;", true)
  | 3 => ("Chipfold", "secondTrial", "LChipfold$Pile;", true)
  | 4 => ("Chipfold", "fire", "LChipfold$Row;", true)
  | 5 => ("Chipfold", "finder", "LChipfold$Finder;", true)
  | 6 => ("Chipfold", "group", "LChipfold$Group;", true)
  | 7 => ("Chipfold", "treeCount", "LChipfold$TreeCount;", true)
  | 8 => ("Chipfold", "rotors", "LChipfold$Rotors;", true)
  | 9 => ("Chipfold", "debts", "LChipfold$Debts;", true)
  | _ => ("Chipfold", "drawing", "LChipfold$Drawing;", true)
def tyX10 : Nat → FieldType := fun k => match k with
  | 0 => .object "Chipfold$Graph"
  | 1 => .object "Chipfold$Pile"
  | 2 => .object "Chipfold$Pile"
  | 3 => .object "Chipfold$Pile"
  | 4 => .object "Chipfold$Row"
  | 5 => .object "Chipfold$Finder"
  | 6 => .object "Chipfold$Group"
  | 7 => .object "Chipfold$TreeCount"
  | 8 => .object "Chipfold$Rotors"
  | 9 => .object "Chipfold$Debts"
  | _ => .object "Chipfold$Drawing"
theorem nmX10 : ∀ a, a < 11 → ∀ b, b < 11 → a ≠ b → (TX10 a).2.1 ≠ (TX10 b).2.1 := by decide +kernel
theorem tyX10_ok : ∀ k, k < 11 → parseFieldDescriptor (TX10 k).2.2.1 = some (tyX10 k) := by decide +kernel
abbrev cX10_init : ByteArray := prog_1_method_1_code
def yX10_init : MethodName := ⟨RX10, "<init>", "()V"⟩
abbrev cX10_vertex : ByteArray := prog_1_method_2_code
def yX10_vertex : MethodName := ⟨RX10, "vertex", "()I"⟩
abbrev cX10_edges : ByteArray := prog_1_method_3_code
def yX10_edges : MethodName := ⟨RX10, "edges", "(III)I"⟩
abbrev cX10_setSink : ByteArray := prog_1_method_4_code
def yX10_setSink : MethodName := ⟨RX10, "setSink", "(I)I"⟩
abbrev cX10_degree : ByteArray := prog_1_method_5_code
def yX10_degree : MethodName := ⟨RX10, "degree", "(I)I"⟩
abbrev cX10_isWhole : ByteArray := prog_1_method_6_code
def yX10_isWhole : MethodName := ⟨RX10, "isWhole", "()Z"⟩
abbrev cX10_put : ByteArray := prog_1_method_7_code
def yX10_put : MethodName := ⟨RX10, "put", "(II)I"⟩
abbrev cX10_chips : ByteArray := prog_1_method_8_code
def yX10_chips : MethodName := ⟨RX10, "chips", "(I)I"⟩
abbrev cX10_topple : ByteArray := prog_1_method_9_code
def yX10_topple : MethodName := ⟨RX10, "topple", "(I)I"⟩
abbrev cX10_settle : ByteArray := prog_1_method_10_code
def yX10_settle : MethodName := ⟨RX10, "settle", "()I"⟩
abbrev cX10_waves : ByteArray := prog_1_method_11_code
def yX10_waves : MethodName := ⟨RX10, "waves", "()I"⟩
abbrev cX10_count : ByteArray := prog_1_method_12_code
def yX10_count : MethodName := ⟨RX10, "count", "(I)I"⟩
abbrev cX10_swallowed : ByteArray := prog_1_method_13_code
def yX10_swallowed : MethodName := ⟨RX10, "swallowed", "()I"⟩
abbrev cX10_isAgain : ByteArray := prog_1_method_14_code
def yX10_isAgain : MethodName := ⟨RX10, "isAgain", "()Z"⟩
abbrev cX10_burns : ByteArray := prog_1_method_15_code
def yX10_burns : MethodName := ⟨RX10, "burns", "(I)I"⟩
abbrev cX10_unit : ByteArray := prog_1_method_16_code
def yX10_unit : MethodName := ⟨RX10, "unit", "(I)I"⟩
abbrev cX10_square : ByteArray := prog_1_method_17_code
def yX10_square : MethodName := ⟨RX10, "square", "()I"⟩
abbrev cX10_trees : ByteArray := prog_1_method_18_code
def yX10_trees : MethodName := ⟨RX10, "trees", "()J"⟩
abbrev cX10_factors : ByteArray := prog_1_method_19_code
def yX10_factors : MethodName := ⟨RX10, "factors", "()I"⟩
abbrev cX10_factorAt : ByteArray := prog_1_method_20_code
def yX10_factorAt : MethodName := ⟨RX10, "factorAt", "(I)J"⟩
abbrev cX10_order : ByteArray := prog_1_method_21_code
def yX10_order : MethodName := ⟨RX10, "order", "()J"⟩
abbrev cX10_walk : ByteArray := prog_1_method_22_code
def yX10_walk : MethodName := ⟨RX10, "walk", "(I)I"⟩
abbrev cX10_rotor : ByteArray := prog_1_method_23_code
def yX10_rotor : MethodName := ⟨RX10, "rotor", "(I)I"⟩
abbrev cX10_visits : ByteArray := prog_1_method_24_code
def yX10_visits : MethodName := ⟨RX10, "visits", "(I)I"⟩
abbrev cX10_areTree : ByteArray := prog_1_method_25_code
def yX10_areTree : MethodName := ⟨RX10, "areTree", "()Z"⟩
abbrev cX10_setDebt : ByteArray := prog_1_method_26_code
def yX10_setDebt : MethodName := ⟨RX10, "setDebt", "(II)I"⟩
abbrev cX10_deal : ByteArray := prog_1_method_27_code
def yX10_deal : MethodName := ⟨RX10, "deal", "(IZ)I"⟩
abbrev cX10_debt : ByteArray := prog_1_method_28_code
def yX10_debt : MethodName := ⟨RX10, "debt", "(I)I"⟩
abbrev cX10_reduced : ByteArray := prog_1_method_29_code
def yX10_reduced : MethodName := ⟨RX10, "reduced", "(I)I"⟩
abbrev cX10_canPay : ByteArray := prog_1_method_30_code
def yX10_canPay : MethodName := ⟨RX10, "canPay", "()Z"⟩
abbrev cX10_rank : ByteArray := prog_1_method_31_code
def yX10_rank : MethodName := ⟨RX10, "rank", "()I"⟩
abbrev cX10_picture : ByteArray := prog_1_method_32_code
def yX10_picture : MethodName := ⟨RX10, "picture", "(II)I"⟩
abbrev cX10_pixel : ByteArray := prog_1_method_33_code
def yX10_pixel : MethodName := ⟨RX10, "pixel", "(I)I"⟩
abbrev cX10_settledShare : ByteArray := prog_1_method_34_code
def yX10_settledShare : MethodName := ⟨RX10, "settledShare", "()F"⟩
abbrev cX10_meanChips : ByteArray := prog_1_method_35_code
def yX10_meanChips : MethodName := ⟨RX10, "meanChips", "()D"⟩
abbrev cX10_isSound : ByteArray := prog_1_method_36_code
def yX10_isSound : MethodName := ⟨RX10, "isSound", "()Z"⟩
abbrev cX10_settlesAlikeFromAbove : ByteArray := prog_1_method_37_code
def yX10_settlesAlikeFromAbove : MethodName := ⟨RX10, "settlesAlikeFromAbove", "()Z"⟩
abbrev cX10_beginAgain : ByteArray := prog_1_method_38_code
def yX10_beginAgain : MethodName := ⟨RX10, "beginAgain", "()V"⟩
abbrev cX10_needVertex : ByteArray := prog_1_method_39_code
def yX10_needVertex : MethodName := ⟨RX10, "needVertex", "(I)V"⟩
abbrev cX10_needWhole : ByteArray := prog_1_method_40_code
def yX10_needWhole : MethodName := ⟨RX10, "needWhole", "()V"⟩
def RX11 : String := "ChipfoldModel"
def TX11 : u_T := fun k => match k with
  | 0 => ("ChipfoldModel", "edges", "[[I", true)
  | 1 => ("ChipfoldModel", "chips", "[I", false)
  | 2 => ("ChipfoldModel", "counts", "[I", false)
  | 3 => ("ChipfoldModel", "rotors", "[I", false)
  | 4 => ("ChipfoldModel", "visits", "[I", false)
  | 5 => ("ChipfoldModel", "debts", "[I", false)
  | 6 => ("ChipfoldModel", "cells", "[I", false)
  | 7 => ("ChipfoldModel", "size", "I", false)
  | 8 => ("ChipfoldModel", "sink", "I", false)
  | 9 => ("ChipfoldModel", "swallowed", "I", false)
  | 10 => ("ChipfoldModel", "side", "I", false)
  | _ => ("ChipfoldModel", "thrown", "I", false)
def tyX11 : Nat → FieldType := fun k => match k with
  | 0 => .array (.array .int)
  | 1 => .array .int
  | 2 => .array .int
  | 3 => .array .int
  | 4 => .array .int
  | 5 => .array .int
  | 6 => .array .int
  | 7 => .int
  | 8 => .int
  | 9 => .int
  | 10 => .int
  | _ => .int
theorem nmX11 : ∀ a, a < 12 → ∀ b, b < 12 → a ≠ b → (TX11 a).2.1 ≠ (TX11 b).2.1 := by decide +kernel
theorem tyX11_ok : ∀ k, k < 12 → parseFieldDescriptor (TX11 k).2.2.1 = some (tyX11 k) := by decide +kernel
abbrev cX11_init : ByteArray := prog_13_method_1_code
def yX11_init : MethodName := ⟨RX11, "<init>", "()V"⟩
abbrev cX11_thrown : ByteArray := prog_13_method_2_code
def yX11_thrown : MethodName := ⟨RX11, "thrown", "()I"⟩
abbrev cX11_in : ByteArray := prog_13_method_3_code
def yX11_in : MethodName := ⟨RX11, "in", "(III)Z"⟩
abbrev cX11_isVertex : ByteArray := prog_13_method_4_code
def yX11_isVertex : MethodName := ⟨RX11, "isVertex", "(I)Z"⟩
abbrev cX11_wrongVertex : ByteArray := prog_13_method_5_code
def yX11_wrongVertex : MethodName := ⟨RX11, "wrongVertex", "(I)I"⟩
abbrev cX11_plain : ByteArray := prog_13_method_6_code
def yX11_plain : MethodName := ⟨RX11, "plain", "(I)I"⟩
abbrev cX11_begin : ByteArray := prog_13_method_7_code
def yX11_begin : MethodName := ⟨RX11, "begin", "()V"⟩
abbrev cX11_vertex : ByteArray := prog_13_method_8_code
def yX11_vertex : MethodName := ⟨RX11, "vertex", "()I"⟩
abbrev cX11_edges : ByteArray := prog_13_method_9_code
def yX11_edges : MethodName := ⟨RX11, "edges", "(III)I"⟩
abbrev cX11_setSink : ByteArray := prog_13_method_10_code
def yX11_setSink : MethodName := ⟨RX11, "setSink", "(I)I"⟩
abbrev cX11_degreeOf : ByteArray := prog_13_method_11_code
def yX11_degreeOf : MethodName := ⟨RX11, "degreeOf", "(I)I"⟩
abbrev cX11_degree : ByteArray := prog_13_method_12_code
def yX11_degree : MethodName := ⟨RX11, "degree", "(I)I"⟩
abbrev cX11_reach : ByteArray := prog_13_method_13_code
def yX11_reach : MethodName := ⟨RX11, "reach", "(I[Z)V"⟩
abbrev cX11_whole : ByteArray := prog_13_method_14_code
def yX11_whole : MethodName := ⟨RX11, "whole", "()Z"⟩
abbrev cX11_isWhole : ByteArray := prog_13_method_15_code
def yX11_isWhole : MethodName := ⟨RX11, "isWhole", "()Z"⟩
abbrev cX11_wrongWhole : ByteArray := prog_13_method_16_code
def yX11_wrongWhole : MethodName := ⟨RX11, "wrongWhole", "()I"⟩
abbrev cX11_put : ByteArray := prog_13_method_17_code
def yX11_put : MethodName := ⟨RX11, "put", "(II)I"⟩
abbrev cX11_chips : ByteArray := prog_13_method_18_code
def yX11_chips : MethodName := ⟨RX11, "chips", "(I)I"⟩
abbrev cX11_can : ByteArray := prog_13_method_19_code
def yX11_can : MethodName := ⟨RX11, "can", "([II)Z"⟩
abbrev cX11_topples : ByteArray := prog_13_method_20_code
def yX11_topples : MethodName := ⟨RX11, "topples", "([III)V"⟩
abbrev cX11_settles : ByteArray := prog_13_method_21_code
def yX11_settles : MethodName := ⟨RX11, "settles", "([I[I)I"⟩
abbrev cX11_swallow : ByteArray := prog_13_method_22_code
def yX11_swallow : MethodName := ⟨RX11, "swallow", "()V"⟩
abbrev cX11_topple : ByteArray := prog_13_method_23_code
def yX11_topple : MethodName := ⟨RX11, "topple", "(I)I"⟩
abbrev cX11_settle : ByteArray := prog_13_method_24_code
def yX11_settle : MethodName := ⟨RX11, "settle", "()I"⟩
abbrev cX11_waves : ByteArray := prog_13_method_25_code
def yX11_waves : MethodName := ⟨RX11, "waves", "()I"⟩
abbrev cX11_count : ByteArray := prog_13_method_26_code
def yX11_count : MethodName := ⟨RX11, "count", "(I)I"⟩
abbrev cX11_swallowed : ByteArray := prog_13_method_27_code
def yX11_swallowed : MethodName := ⟨RX11, "swallowed", "()I"⟩
abbrev cX11_fire : ByteArray := prog_13_method_28_code
def yX11_fire : MethodName := ⟨RX11, "fire", "([I)[I"⟩
abbrev cX11_unburnt : ByteArray := prog_13_method_29_code
def yX11_unburnt : MethodName := ⟨RX11, "unburnt", "(I[I)I"⟩
abbrev cX11_burnsAll : ByteArray := prog_13_method_30_code
def yX11_burnsAll : MethodName := ⟨RX11, "burnsAll", "([I)Z"⟩
abbrev cX11_isAgain : ByteArray := prog_13_method_31_code
def yX11_isAgain : MethodName := ⟨RX11, "isAgain", "()Z"⟩
abbrev cX11_burns : ByteArray := prog_13_method_32_code
def yX11_burns : MethodName := ⟨RX11, "burns", "(I)I"⟩
abbrev cX11_nothing : ByteArray := prog_13_method_33_code
def yX11_nothing : MethodName := ⟨RX11, "nothing", "()[I"⟩
abbrev cX11_units : ByteArray := prog_13_method_34_code
def yX11_units : MethodName := ⟨RX11, "units", "()[I"⟩
abbrev cX11_unit : ByteArray := prog_13_method_35_code
def yX11_unit : MethodName := ⟨RX11, "unit", "(I)I"⟩
abbrev cX11_square : ByteArray := prog_13_method_36_code
def yX11_square : MethodName := ⟨RX11, "square", "()I"⟩
abbrev cX11_rows : ByteArray := prog_13_method_37_code
def yX11_rows : MethodName := ⟨RX11, "rows", "()[[J"⟩
abbrev cX11_middle : ByteArray := prog_13_method_38_code
def yX11_middle : MethodName := ⟨RX11, "middle", "([[J)[J"⟩
abbrev cX11_isClear : ByteArray := prog_13_method_39_code
def yX11_isClear : MethodName := ⟨RX11, "isClear", "([[JI)Z"⟩
abbrev cX11_step : ByteArray := prog_13_method_40_code
def yX11_step : MethodName := ⟨RX11, "step", "([[JI)V"⟩
abbrev cX11_allTrees : ByteArray := prog_13_method_41_code
def yX11_allTrees : MethodName := ⟨RX11, "allTrees", "()J"⟩
abbrev cX11_trees : ByteArray := prog_13_method_42_code
def yX11_trees : MethodName := ⟨RX11, "trees", "()J"⟩
abbrev cX11_allFactors : ByteArray := prog_13_method_43_code
def yX11_allFactors : MethodName := ⟨RX11, "allFactors", "()Ljava/util/ArrayList;"⟩
abbrev cX11_factors : ByteArray := prog_13_method_44_code
def yX11_factors : MethodName := ⟨RX11, "factors", "()I"⟩
abbrev cX11_factorAt : ByteArray := prog_13_method_45_code
def yX11_factorAt : MethodName := ⟨RX11, "factorAt", "(I)J"⟩
abbrev cX11_isNothing : ByteArray := prog_13_method_46_code
def yX11_isNothing : MethodName := ⟨RX11, "isNothing", "(JJ)Z"⟩
abbrev cX11_order : ByteArray := prog_13_method_47_code
def yX11_order : MethodName := ⟨RX11, "order", "()J"⟩
abbrev cX11_isPrime : ByteArray := prog_13_method_48_code
def yX11_isPrime : MethodName := ⟨RX11, "isPrime", "(J)Z"⟩
abbrev cX11_pointed : ByteArray := prog_13_method_49_code
def yX11_pointed : MethodName := ⟨RX11, "pointed", "(I)I"⟩
abbrev cX11_walk : ByteArray := prog_13_method_50_code
def yX11_walk : MethodName := ⟨RX11, "walk", "(I)I"⟩
abbrev cX11_rotor : ByteArray := prog_13_method_51_code
def yX11_rotor : MethodName := ⟨RX11, "rotor", "(I)I"⟩
abbrev cX11_visits : ByteArray := prog_13_method_52_code
def yX11_visits : MethodName := ⟨RX11, "visits", "(I)I"⟩
abbrev cX11_areTree : ByteArray := prog_13_method_53_code
def yX11_areTree : MethodName := ⟨RX11, "areTree", "()Z"⟩
abbrev cX11_setDebt : ByteArray := prog_13_method_54_code
def yX11_setDebt : MethodName := ⟨RX11, "setDebt", "(II)I"⟩
abbrev cX11_deal : ByteArray := prog_13_method_55_code
def yX11_deal : MethodName := ⟨RX11, "deal", "(IZ)I"⟩
abbrev cX11_debt : ByteArray := prog_13_method_56_code
def yX11_debt : MethodName := ⟨RX11, "debt", "(I)I"⟩
abbrev cX11_reducedBy : ByteArray := prog_13_method_57_code
def yX11_reducedBy : MethodName := ⟨RX11, "reducedBy", "([I)[I"⟩
abbrev cX11_fireOut : ByteArray := prog_13_method_58_code
def yX11_fireOut : MethodName := ⟨RX11, "fireOut", "([I)[I"⟩
abbrev cX11_reduced : ByteArray := prog_13_method_59_code
def yX11_reduced : MethodName := ⟨RX11, "reduced", "(I)I"⟩
abbrev cX11_canBePaid : ByteArray := prog_13_method_60_code
def yX11_canBePaid : MethodName := ⟨RX11, "canBePaid", "([I)Z"⟩
abbrev cX11_canPay : ByteArray := prog_13_method_61_code
def yX11_canPay : MethodName := ⟨RX11, "canPay", "()Z"⟩
abbrev cX11_together : ByteArray := prog_13_method_62_code
def yX11_together : MethodName := ⟨RX11, "together", "([I)I"⟩
abbrev cX11_canLose : ByteArray := prog_13_method_63_code
def yX11_canLose : MethodName := ⟨RX11, "canLose", "([III)Z"⟩
abbrev cX11_rank : ByteArray := prog_13_method_64_code
def yX11_rank : MethodName := ⟨RX11, "rank", "()I"⟩
abbrev cX11_picture : ByteArray := prog_13_method_65_code
def yX11_picture : MethodName := ⟨RX11, "picture", "(II)I"⟩
abbrev cX11_pixel : ByteArray := prog_13_method_66_code
def yX11_pixel : MethodName := ⟨RX11, "pixel", "(I)I"⟩
abbrev cX11_settledShare : ByteArray := prog_13_method_67_code
def yX11_settledShare : MethodName := ⟨RX11, "settledShare", "()F"⟩
abbrev cX11_meanChips : ByteArray := prog_13_method_68_code
def yX11_meanChips : MethodName := ⟨RX11, "meanChips", "()D"⟩
abbrev cX11_isSound : ByteArray := prog_13_method_69_code
def yX11_isSound : MethodName := ⟨RX11, "isSound", "()Z"⟩
abbrev cX11_isSameRow : ByteArray := prog_13_method_70_code
def yX11_isSameRow : MethodName := ⟨RX11, "isSameRow", "([I[I)Z"⟩
def RJx145de : String := "java/io/Serializable"
def TJx145de : u_T := fun k => match k with
  | _ => ("", "", "", false)
def tyJx145de : Nat → FieldType := fun k => match k with
  | _ => .int
theorem nmJx145de : ∀ a, a < 0 → ∀ b, b < 0 → a ≠ b → (TJx145de a).2.1 ≠ (TJx145de b).2.1 := by decide +kernel
theorem tyJx145de_ok : ∀ k, k < 0 → parseFieldDescriptor (TJx145de k).2.2.1 = some (tyJx145de k) := by decide +kernel
def RJx00060 : String := "java/lang/ArrayIndexOutOfBoundsException"
def TJx00060 : u_T := fun k => match k with
  | 0 => ("java/lang/Throwable", "backtrace", "Ljava/lang/Object;", false)
  | 1 => ("java/lang/Throwable", "detailMessage", "Ljava/lang/String;", false)
  | 2 => ("java/lang/Throwable", "cause", "Ljava/lang/Throwable;", false)
  | 3 => ("java/lang/Throwable", "stackTrace", "[Ljava/lang/StackTraceElement;", false)
  | 4 => ("java/lang/Throwable", "depth", "I", false)
  | _ => ("java/lang/Throwable", "suppressedExceptions", "Ljava/util/List;", false)
def tyJx00060 : Nat → FieldType := fun k => match k with
  | 0 => .object "java/lang/Object"
  | 1 => .object "java/lang/String"
  | 2 => .object "java/lang/Throwable"
  | 3 => .array (.object "java/lang/StackTraceElement")
  | 4 => .int
  | _ => .object "java/util/List"
theorem nmJx00060 : ∀ a, a < 6 → ∀ b, b < 6 → a ≠ b → (TJx00060 a).2.1 ≠ (TJx00060 b).2.1 := by decide +kernel
theorem tyJx00060_ok : ∀ k, k < 6 → parseFieldDescriptor (TJx00060 k).2.2.1 = some (tyJx00060 k) := by decide +kernel
abbrev cJx00060_init_a7421 : ByteArray := prog_16_method_2_code
def yJx00060_init_a7421 : MethodName := ⟨RJx00060, "<init>", "(Ljava/lang/String;)V"⟩
def RJx8e188 : String := "java/lang/Cloneable"
def TJx8e188 : u_T := fun k => match k with
  | _ => ("", "", "", false)
def tyJx8e188 : Nat → FieldType := fun k => match k with
  | _ => .int
theorem nmJx8e188 : ∀ a, a < 0 → ∀ b, b < 0 → a ≠ b → (TJx8e188 a).2.1 ≠ (TJx8e188 b).2.1 := by decide +kernel
theorem tyJx8e188_ok : ∀ k, k < 0 → parseFieldDescriptor (TJx8e188 k).2.2.1 = some (tyJx8e188 k) := by decide +kernel
def RJxb160c : String := "java/lang/Comparable"
def TJxb160c : u_T := fun k => match k with
  | _ => ("", "", "", false)
def tyJxb160c : Nat → FieldType := fun k => match k with
  | _ => .int
theorem nmJxb160c : ∀ a, a < 0 → ∀ b, b < 0 → a ≠ b → (TJxb160c a).2.1 ≠ (TJxb160c b).2.1 := by decide +kernel
theorem tyJxb160c_ok : ∀ k, k < 0 → parseFieldDescriptor (TJxb160c k).2.2.1 = some (tyJxb160c k) := by decide +kernel
def RJ6 : String := "java/lang/Integer"
def TJ6 : u_T := fun k => match k with
  | _ => ("", "", "", false)
def tyJ6 : Nat → FieldType := fun k => match k with
  | _ => .int
theorem nmJ6 : ∀ a, a < 0 → ∀ b, b < 0 → a ≠ b → (TJ6 a).2.1 ≠ (TJ6 b).2.1 := by decide +kernel
theorem tyJ6_ok : ∀ k, k < 0 → parseFieldDescriptor (TJ6 k).2.2.1 = some (tyJ6 k) := by decide +kernel
abbrev cJ6_bitCount_0f7a4 : ByteArray := prog_23_method_49_code
def yJ6_bitCount_0f7a4 : MethodName := ⟨RJ6, "bitCount", "(I)I"⟩
def RJxab1ab : String := "java/lang/Iterable"
def TJxab1ab : u_T := fun k => match k with
  | _ => ("", "", "", false)
def tyJxab1ab : Nat → FieldType := fun k => match k with
  | _ => .int
theorem nmJxab1ab : ∀ a, a < 0 → ∀ b, b < 0 → a ≠ b → (TJxab1ab a).2.1 ≠ (TJxab1ab b).2.1 := by decide +kernel
theorem tyJxab1ab_ok : ∀ k, k < 0 → parseFieldDescriptor (TJxab1ab k).2.2.1 = some (tyJxab1ab k) := by decide +kernel
def RJxdb0fc : String := "java/lang/Long$LongCache"
def TJxdb0fc : u_T := fun k => match k with
  | _ => ("", "", "", false)
def tyJxdb0fc : Nat → FieldType := fun k => match k with
  | _ => .int
theorem nmJxdb0fc : ∀ a, a < 0 → ∀ b, b < 0 → a ≠ b → (TJxdb0fc a).2.1 ≠ (TJxdb0fc b).2.1 := by decide +kernel
theorem tyJxdb0fc_ok : ∀ k, k < 0 → parseFieldDescriptor (TJxdb0fc k).2.2.1 = some (tyJxdb0fc k) := by decide +kernel
def RJ13 : String := "java/lang/Long"
def TJ13 : u_T := fun k => match k with
  | _ => ("java/lang/Long", "value", "J", true)
def tyJ13 : Nat → FieldType := fun k => match k with
  | _ => .long
theorem nmJ13 : ∀ a, a < 1 → ∀ b, b < 1 → a ≠ b → (TJ13 a).2.1 ≠ (TJ13 b).2.1 := by decide +kernel
theorem tyJ13_ok : ∀ k, k < 1 → parseFieldDescriptor (TJ13 k).2.2.1 = some (tyJ13 k) := by decide +kernel
abbrev cJ13_valueOf_928b6 : ByteArray := prog_25_method_24_code
def yJ13_valueOf_928b6 : MethodName := ⟨RJ13, "valueOf", "(J)Ljava/lang/Long;"⟩
abbrev cJ13_init_e45a9 : ByteArray := prog_25_method_26_code
def yJ13_init_e45a9 : MethodName := ⟨RJ13, "<init>", "(J)V"⟩
abbrev cJ13_longValue_f9912 : ByteArray := prog_25_method_31_code
def yJ13_longValue_f9912 : MethodName := ⟨RJ13, "longValue", "()J"⟩
def RJ9 : String := "java/lang/Math"
def TJ9 : u_T := fun k => match k with
  | _ => ("", "", "", false)
def tyJ9 : Nat → FieldType := fun k => match k with
  | _ => .int
theorem nmJ9 : ∀ a, a < 0 → ∀ b, b < 0 → a ≠ b → (TJ9 a).2.1 ≠ (TJ9 b).2.1 := by decide +kernel
theorem tyJ9_ok : ∀ k, k < 0 → parseFieldDescriptor (TJ9 k).2.2.1 = some (tyJ9 k) := by decide +kernel
abbrev cJ9_abs_067f4 : ByteArray := prog_27_method_61_code
def yJ9_abs_067f4 : MethodName := ⟨RJ9, "abs", "(J)J"⟩
abbrev cJ9_max_7cf53 : ByteArray := prog_27_method_65_code
def yJ9_max_7cf53 : MethodName := ⟨RJ9, "max", "(II)I"⟩
abbrev cJ9_min_7cf53 : ByteArray := prog_27_method_69_code
def yJ9_min_7cf53 : MethodName := ⟨RJ9, "min", "(II)I"⟩
def RJxd2413 : String := "java/lang/Number"
def TJxd2413 : u_T := fun k => match k with
  | _ => ("", "", "", false)
def tyJxd2413 : Nat → FieldType := fun k => match k with
  | _ => .int
theorem nmJxd2413 : ∀ a, a < 0 → ∀ b, b < 0 → a ≠ b → (TJxd2413 a).2.1 ≠ (TJxd2413 b).2.1 := by decide +kernel
theorem tyJxd2413_ok : ∀ k, k < 0 → parseFieldDescriptor (TJxd2413 k).2.2.1 = some (tyJxd2413 k) := by decide +kernel
abbrev cJxd2413_init_da8c8 : ByteArray := prog_28_method_1_code
def yJxd2413_init_da8c8 : MethodName := ⟨RJxd2413, "<init>", "()V"⟩
def RJ0 : String := "java/lang/String"
def TJ0 : u_T := fun k => match k with
  | 0 => ("java/lang/String", "value", "[B", true)
  | _ => ("java/lang/String", "coder", "B", true)
def tyJ0 : Nat → FieldType := fun k => match k with
  | 0 => .array .byte
  | _ => .byte
theorem nmJ0 : ∀ a, a < 2 → ∀ b, b < 2 → a ≠ b → (TJ0 a).2.1 ≠ (TJ0 b).2.1 := by decide +kernel
theorem tyJ0_ok : ∀ k, k < 2 → parseFieldDescriptor (TJ0 k).2.2.1 = some (tyJ0 k) := by decide +kernel
def RJ10 : String := "java/lang/System"
def TJ10 : u_T := fun k => match k with
  | _ => ("", "", "", false)
def tyJ10 : Nat → FieldType := fun k => match k with
  | _ => .int
theorem nmJ10 : ∀ a, a < 0 → ∀ b, b < 0 → a ≠ b → (TJ10 a).2.1 ≠ (TJ10 b).2.1 := by decide +kernel
theorem tyJ10_ok : ∀ k, k < 0 → parseFieldDescriptor (TJ10 k).2.2.1 = some (tyJ10 k) := by decide +kernel
def RJxfd54e : String := "java/lang/constant/Constable"
def TJxfd54e : u_T := fun k => match k with
  | _ => ("", "", "", false)
def tyJxfd54e : Nat → FieldType := fun k => match k with
  | _ => .int
theorem nmJxfd54e : ∀ a, a < 0 → ∀ b, b < 0 → a ≠ b → (TJxfd54e a).2.1 ≠ (TJxfd54e b).2.1 := by decide +kernel
theorem tyJxfd54e_ok : ∀ k, k < 0 → parseFieldDescriptor (TJxfd54e k).2.2.1 = some (tyJxfd54e k) := by decide +kernel
def RJx3cf43 : String := "java/lang/constant/ConstantDesc"
def TJx3cf43 : u_T := fun k => match k with
  | _ => ("", "", "", false)
def tyJx3cf43 : Nat → FieldType := fun k => match k with
  | _ => .int
theorem nmJx3cf43 : ∀ a, a < 0 → ∀ b, b < 0 → a ≠ b → (TJx3cf43 a).2.1 ≠ (TJx3cf43 b).2.1 := by decide +kernel
theorem tyJx3cf43_ok : ∀ k, k < 0 → parseFieldDescriptor (TJx3cf43 k).2.2.1 = some (tyJx3cf43 k) := by decide +kernel
def RJxa1e45 : String := "java/util/AbstractCollection"
def TJxa1e45 : u_T := fun k => match k with
  | _ => ("", "", "", false)
def tyJxa1e45 : Nat → FieldType := fun k => match k with
  | _ => .int
theorem nmJxa1e45 : ∀ a, a < 0 → ∀ b, b < 0 → a ≠ b → (TJxa1e45 a).2.1 ≠ (TJxa1e45 b).2.1 := by decide +kernel
theorem tyJxa1e45_ok : ∀ k, k < 0 → parseFieldDescriptor (TJxa1e45 k).2.2.1 = some (tyJxa1e45 k) := by decide +kernel
abbrev cJxa1e45_init_da8c8 : ByteArray := prog_36_method_1_code
def yJxa1e45_init_da8c8 : MethodName := ⟨RJxa1e45, "<init>", "()V"⟩
def RJxc12de : String := "java/util/AbstractList"
def TJxc12de : u_T := fun k => match k with
  | _ => ("", "", "", false)
def tyJxc12de : Nat → FieldType := fun k => match k with
  | _ => .int
theorem nmJxc12de : ∀ a, a < 0 → ∀ b, b < 0 → a ≠ b → (TJxc12de a).2.1 ≠ (TJxc12de b).2.1 := by decide +kernel
theorem tyJxc12de_ok : ∀ k, k < 0 → parseFieldDescriptor (TJxc12de k).2.2.1 = some (tyJxc12de k) := by decide +kernel
abbrev cJxc12de_init_da8c8 : ByteArray := prog_37_method_1_code
def yJxc12de_init_da8c8 : MethodName := ⟨RJxc12de, "<init>", "()V"⟩
def RJx4a65c : String := "java/util/ArrayList"
def TJx4a65c : u_T := fun k => match k with
  | 0 => ("java/util/AbstractList", "modCount", "I", false)
  | 1 => ("java/util/ArrayList", "elementData", "[Ljava/lang/Object;", false)
  | _ => ("java/util/ArrayList", "size", "I", false)
def tyJx4a65c : Nat → FieldType := fun k => match k with
  | 0 => .int
  | 1 => .array (.object "java/lang/Object")
  | _ => .int
theorem nmJx4a65c : ∀ a, a < 3 → ∀ b, b < 3 → a ≠ b → (TJx4a65c a).2.1 ≠ (TJx4a65c b).2.1 := by decide +kernel
theorem tyJx4a65c_ok : ∀ k, k < 3 → parseFieldDescriptor (TJx4a65c k).2.2.1 = some (tyJx4a65c k) := by decide +kernel
abbrev cJx4a65c_init_da8c8 : ByteArray := prog_38_method_2_code
def yJx4a65c_init_da8c8 : MethodName := ⟨RJx4a65c, "<init>", "()V"⟩
abbrev cJx4a65c_grow_92f84 : ByteArray := prog_38_method_6_code
def yJx4a65c_grow_92f84 : MethodName := ⟨RJx4a65c, "grow", "(I)[Ljava/lang/Object;"⟩
abbrev cJx4a65c_grow_d5877 : ByteArray := prog_38_method_7_code
def yJx4a65c_grow_d5877 : MethodName := ⟨RJx4a65c, "grow", "()[Ljava/lang/Object;"⟩
abbrev cJx4a65c_size_8abf5 : ByteArray := prog_38_method_8_code
def yJx4a65c_size_8abf5 : MethodName := ⟨RJx4a65c, "size", "()I"⟩
abbrev cJx4a65c_elementData_915e3 : ByteArray := prog_38_method_18_code
def yJx4a65c_elementData_915e3 : MethodName := ⟨RJx4a65c, "elementData", "(I)Ljava/lang/Object;"⟩
abbrev cJx4a65c_get_915e3 : ByteArray := prog_38_method_20_code
def yJx4a65c_get_915e3 : MethodName := ⟨RJx4a65c, "get", "(I)Ljava/lang/Object;"⟩
abbrev cJx4a65c_add_72be8 : ByteArray := prog_38_method_24_code
def yJx4a65c_add_72be8 : MethodName := ⟨RJx4a65c, "add", "(Ljava/lang/Object;[Ljava/lang/Object;I)V"⟩
abbrev cJx4a65c_add_9ea2d : ByteArray := prog_38_method_25_code
def yJx4a65c_add_9ea2d : MethodName := ⟨RJx4a65c, "add", "(Ljava/lang/Object;)Z"⟩
def RJ7 : String := "java/util/Arrays"
def TJ7 : u_T := fun k => match k with
  | _ => ("", "", "", false)
def tyJ7 : Nat → FieldType := fun k => match k with
  | _ => .int
theorem nmJ7 : ∀ a, a < 0 → ∀ b, b < 0 → a ≠ b → (TJ7 a).2.1 ≠ (TJ7 b).2.1 := by decide +kernel
theorem tyJ7_ok : ∀ k, k < 0 → parseFieldDescriptor (TJ7 k).2.2.1 = some (tyJ7 k) := by decide +kernel
abbrev cJ7_fill_53178 : ByteArray := prog_39_method_103_code
def yJ7_fill_53178 : MethodName := ⟨RJ7, "fill", "([II)V"⟩
abbrev cJ7_copyOf_1904c : ByteArray := prog_39_method_119_code
def yJ7_copyOf_1904c : MethodName := ⟨RJ7, "copyOf", "([Ljava/lang/Object;I)[Ljava/lang/Object;"⟩
abbrev cJ7_copyOf_6403c : ByteArray := prog_39_method_120_code
def yJ7_copyOf_6403c : MethodName := ⟨RJ7, "copyOf", "([Ljava/lang/Object;ILjava/lang/Class;)[Ljava/lang/Object;"⟩
def RJx5ef63 : String := "java/util/Collection"
def TJx5ef63 : u_T := fun k => match k with
  | _ => ("", "", "", false)
def tyJx5ef63 : Nat → FieldType := fun k => match k with
  | _ => .int
theorem nmJx5ef63 : ∀ a, a < 0 → ∀ b, b < 0 → a ≠ b → (TJx5ef63 a).2.1 ≠ (TJx5ef63 b).2.1 := by decide +kernel
theorem tyJx5ef63_ok : ∀ k, k < 0 → parseFieldDescriptor (TJx5ef63 k).2.2.1 = some (tyJx5ef63 k) := by decide +kernel
def RJxbd725 : String := "java/util/List"
def TJxbd725 : u_T := fun k => match k with
  | _ => ("", "", "", false)
def tyJxbd725 : Nat → FieldType := fun k => match k with
  | _ => .int
theorem nmJxbd725 : ∀ a, a < 0 → ∀ b, b < 0 → a ≠ b → (TJxbd725 a).2.1 ≠ (TJxbd725 b).2.1 := by decide +kernel
theorem tyJxbd725_ok : ∀ k, k < 0 → parseFieldDescriptor (TJxbd725 k).2.2.1 = some (tyJxbd725 k) := by decide +kernel
def RJ15 : String := "java/util/Objects"
def TJ15 : u_T := fun k => match k with
  | _ => ("", "", "", false)
def tyJ15 : Nat → FieldType := fun k => match k with
  | _ => .int
theorem nmJ15 : ∀ a, a < 0 → ∀ b, b < 0 → a ≠ b → (TJ15 a).2.1 ≠ (TJ15 b).2.1 := by decide +kernel
theorem tyJ15_ok : ∀ k, k < 0 → parseFieldDescriptor (TJ15 k).2.2.1 = some (tyJ15 k) := by decide +kernel
abbrev cJ15_checkIndex_7cf53 : ByteArray := prog_43_method_17_code
def yJ15_checkIndex_7cf53 : MethodName := ⟨RJ15, "checkIndex", "(II)I"⟩
def RJxf0a74 : String := "java/util/RandomAccess"
def TJxf0a74 : u_T := fun k => match k with
  | _ => ("", "", "", false)
def tyJxf0a74 : Nat → FieldType := fun k => match k with
  | _ => .int
theorem nmJxf0a74 : ∀ a, a < 0 → ∀ b, b < 0 → a ≠ b → (TJxf0a74 a).2.1 ≠ (TJxf0a74 b).2.1 := by decide +kernel
theorem tyJxf0a74_ok : ∀ k, k < 0 → parseFieldDescriptor (TJxf0a74 k).2.2.1 = some (tyJxf0a74 k) := by decide +kernel
def RJxa66e6 : String := "java/util/SequencedCollection"
def TJxa66e6 : u_T := fun k => match k with
  | _ => ("", "", "", false)
def tyJxa66e6 : Nat → FieldType := fun k => match k with
  | _ => .int
theorem nmJxa66e6 : ∀ a, a < 0 → ∀ b, b < 0 → a ≠ b → (TJxa66e6 a).2.1 ≠ (TJxa66e6 b).2.1 := by decide +kernel
theorem tyJxa66e6_ok : ∀ k, k < 0 → parseFieldDescriptor (TJxa66e6 k).2.2.1 = some (tyJxa66e6 k) := by decide +kernel
def RJ8 : String := "jdk/internal/util/ArraysSupport"
def TJ8 : u_T := fun k => match k with
  | _ => ("", "", "", false)
def tyJ8 : Nat → FieldType := fun k => match k with
  | _ => .int
theorem nmJ8 : ∀ a, a < 0 → ∀ b, b < 0 → a ≠ b → (TJ8 a).2.1 ≠ (TJ8 b).2.1 := by decide +kernel
theorem tyJ8_ok : ∀ k, k < 0 → parseFieldDescriptor (TJ8 k).2.2.1 = some (tyJ8 k) := by decide +kernel
abbrev cJ8_newLength_cabcc : ByteArray := prog_46_method_27_code
def yJ8_newLength_cabcc : MethodName := ⟨RJ8, "newLength", "(III)I"⟩
abbrev cJ8_hugeLength_7cf53 : ByteArray := prog_46_method_28_code
def yJ8_hugeLength_7cf53 : MethodName := ⟨RJ8, "hugeLength", "(II)I"⟩
def RJ3 : String := "jdk/internal/util/Preconditions"
def TJ3 : u_T := fun k => match k with
  | _ => ("", "", "", false)
def tyJ3 : Nat → FieldType := fun k => match k with
  | _ => .int
theorem nmJ3 : ∀ a, a < 0 → ∀ b, b < 0 → a ≠ b → (TJ3 a).2.1 ≠ (TJ3 b).2.1 := by decide +kernel
theorem tyJ3_ok : ∀ k, k < 0 → parseFieldDescriptor (TJ3 k).2.2.1 = some (tyJ3 k) := by decide +kernel
abbrev cJ3_checkIndex_8e157 : ByteArray := prog_47_method_11_code
def yJ3_checkIndex_8e157 : MethodName := ⟨RJ3, "checkIndex", "(IILjava/util/function/BiFunction;)I"⟩
def RL : String := "ChipfoldLaw"
abbrev cL_vertex : ByteArray := method_3_code
def yL_vertex : MethodName := ⟨RL, "vertex", "(LChipfold;[J)I"⟩
abbrev cL_edges : ByteArray := method_4_code
def yL_edges : MethodName := ⟨RL, "edges", "(LChipfold;III[J)I"⟩
abbrev cL_setSink : ByteArray := method_5_code
def yL_setSink : MethodName := ⟨RL, "setSink", "(LChipfold;I[J)I"⟩
abbrev cL_degree : ByteArray := method_6_code
def yL_degree : MethodName := ⟨RL, "degree", "(LChipfold;I[J)I"⟩
abbrev cL_put : ByteArray := method_7_code
def yL_put : MethodName := ⟨RL, "put", "(LChipfold;II[J)I"⟩
abbrev cL_chips : ByteArray := method_8_code
def yL_chips : MethodName := ⟨RL, "chips", "(LChipfold;I[J)I"⟩
abbrev cL_topple : ByteArray := method_9_code
def yL_topple : MethodName := ⟨RL, "topple", "(LChipfold;I[J)I"⟩
abbrev cL_settle : ByteArray := method_10_code
def yL_settle : MethodName := ⟨RL, "settle", "(LChipfold;[J)I"⟩
abbrev cL_waves : ByteArray := method_11_code
def yL_waves : MethodName := ⟨RL, "waves", "(LChipfold;[J)I"⟩
abbrev cL_count : ByteArray := method_12_code
def yL_count : MethodName := ⟨RL, "count", "(LChipfold;I[J)I"⟩
abbrev cL_isAgain : ByteArray := method_13_code
def yL_isAgain : MethodName := ⟨RL, "isAgain", "(LChipfold;[J)I"⟩
abbrev cL_burns : ByteArray := method_14_code
def yL_burns : MethodName := ⟨RL, "burns", "(LChipfold;I[J)I"⟩
abbrev cL_unit : ByteArray := method_15_code
def yL_unit : MethodName := ⟨RL, "unit", "(LChipfold;I[J)I"⟩
abbrev cL_square : ByteArray := method_16_code
def yL_square : MethodName := ⟨RL, "square", "(LChipfold;[J)I"⟩
abbrev cL_factors : ByteArray := method_17_code
def yL_factors : MethodName := ⟨RL, "factors", "(LChipfold;[J)I"⟩
abbrev cL_factorAt : ByteArray := method_18_code
def yL_factorAt : MethodName := ⟨RL, "factorAt", "(LChipfold;I[J)I"⟩
abbrev cL_order : ByteArray := method_19_code
def yL_order : MethodName := ⟨RL, "order", "(LChipfold;[J)I"⟩
abbrev cL_walk : ByteArray := method_20_code
def yL_walk : MethodName := ⟨RL, "walk", "(LChipfold;I[J)I"⟩
abbrev cL_rotor : ByteArray := method_21_code
def yL_rotor : MethodName := ⟨RL, "rotor", "(LChipfold;I[J)I"⟩
abbrev cL_visits : ByteArray := method_22_code
def yL_visits : MethodName := ⟨RL, "visits", "(LChipfold;I[J)I"⟩
abbrev cL_areTree : ByteArray := method_23_code
def yL_areTree : MethodName := ⟨RL, "areTree", "(LChipfold;[J)I"⟩
abbrev cL_setDebt : ByteArray := method_24_code
def yL_setDebt : MethodName := ⟨RL, "setDebt", "(LChipfold;II[J)I"⟩
abbrev cL_deal : ByteArray := method_25_code
def yL_deal : MethodName := ⟨RL, "deal", "(LChipfold;IZ[J)I"⟩
abbrev cL_debt : ByteArray := method_26_code
def yL_debt : MethodName := ⟨RL, "debt", "(LChipfold;I[J)I"⟩
abbrev cL_reduced : ByteArray := method_27_code
def yL_reduced : MethodName := ⟨RL, "reduced", "(LChipfold;I[J)I"⟩
abbrev cL_canPay : ByteArray := method_28_code
def yL_canPay : MethodName := ⟨RL, "canPay", "(LChipfold;[J)I"⟩
abbrev cL_rank : ByteArray := method_29_code
def yL_rank : MethodName := ⟨RL, "rank", "(LChipfold;[J)I"⟩
abbrev cL_picture : ByteArray := method_30_code
def yL_picture : MethodName := ⟨RL, "picture", "(LChipfold;II[J)I"⟩
abbrev cL_pixel : ByteArray := method_31_code
def yL_pixel : MethodName := ⟨RL, "pixel", "(LChipfold;I[J)I"⟩
abbrev cL_settledShare : ByteArray := method_32_code
def yL_settledShare : MethodName := ⟨RL, "settledShare", "(LChipfold;[D)I"⟩
abbrev cL_meanChips : ByteArray := method_33_code
def yL_meanChips : MethodName := ⟨RL, "meanChips", "(LChipfold;[D)I"⟩
abbrev cL_law : ByteArray := code
def yL_law : MethodName := ⟨RL, "law", "([I)Z"⟩
abbrev vwCl : List vw_C := [(RJ0, TJ0, 2), (RJ13, TJ13, 1), (RJx00060, TJx00060, 6), (RJx4a65c, TJx4a65c, 3), (RX0, TX0, 7), (RX1, TX1, 2), (RX2, TX2, 4), (RX3, TX3, 4), (RX4, TX4, 3), (RX5, TX5, 1), (RX6, TX6, 4), (RX7, TX7, 3), (RX8, TX8, 1), (RX9, TX9, 1), (RX10, TX10, 11), (RX11, TX11, 12)]
end
section
/-- the words of the tables that any method may be handed on -/
def WG : List Cond := lw_tbl.filter goodWord
theorem wg_hts {args : Array Value} {s : State} (h : ∀ w ∈ lw_tbl, w.before args s = true) : ∀ w ∈ WG, w.before args s = true := fun w hw => h w (List.mem_filter.mp hw).1
theorem wg_of {w : Cond} (h : w ∈ lw_tbl) (hg : goodWord w = true) : w ∈ WG := List.mem_filter.mpr ⟨h, hg⟩
theorem wg_t {w : Cond} (h : w ∈ tables_1) (hg : goodWord w = true) : w ∈ WG := wg_of (List.mem_append_right _ h) hg
theorem wg_0 {w : Cond} (h : w ∈ k2_sels lw_privs) (hg : goodWord w = true) : w ∈ WG := wg_of (List.mem_append_left _ h) hg
theorem wg_1 {w : Cond} (h : w ∈ tables_1_1) (hg : goodWord w = true) : w ∈ WG := wg_t (List.mem_append_left _ h) hg
theorem wg_2 {w : Cond} (h : w ∈ tables_1_2) (hg : goodWord w = true) : w ∈ WG := wg_t (List.mem_append_right _ (List.mem_append_left _ h)) hg
theorem wg_3 {w : Cond} (h : w ∈ tables_1_3) (hg : goodWord w = true) : w ∈ WG := wg_t (List.mem_append_right _ (List.mem_append_right _ (List.mem_append_left _ h))) hg
theorem wg_4 {w : Cond} (h : w ∈ tables_1_4) (hg : goodWord w = true) : w ∈ WG := wg_t (List.mem_append_right _ (List.mem_append_right _ (List.mem_append_right _ (List.mem_append_left _ h)))) hg
theorem wg_5 {w : Cond} (h : w ∈ tables_1_5) (hg : goodWord w = true) : w ∈ WG := wg_t (List.mem_append_right _ (List.mem_append_right _ (List.mem_append_right _ (List.mem_append_right _ (List.mem_append_left _ h))))) hg
theorem wg_6 {w : Cond} (h : w ∈ tables_1_6) (hg : goodWord w = true) : w ∈ WG := wg_t (List.mem_append_right _ (List.mem_append_right _ (List.mem_append_right _ (List.mem_append_right _ (List.mem_append_right _ (List.mem_append_left _ h)))))) hg
theorem wg_7 {w : Cond} (h : w ∈ tables_1_7) (hg : goodWord w = true) : w ∈ WG := wg_t (List.mem_append_right _ (List.mem_append_right _ (List.mem_append_right _ (List.mem_append_right _ (List.mem_append_right _ (List.mem_append_right _ (h))))))) hg
theorem wg_good {w : Cond} (h : w ∈ WG) : (w.onTables && w.keeps) = true ∨ ∃ ty, w = .arrayClass ty := good_of_word (List.mem_filter.mp h).2
theorem wg_in {ws : List Cond} (h : ∀ w ∈ ws, w ∈ WG) : GoodIn WG ws := fun w hw => ⟨h w hw, wg_good (h w hw)⟩
theorem wg_cons {w : Cond} {ws : List Cond} (h : w ∈ WG) (h2 : ∀ x ∈ ws, x ∈ WG) : ∀ x ∈ w :: ws, x ∈ WG := List.forall_mem_cons.mpr ⟨h, h2⟩
theorem wg_V {own C : String} {idx ny : Nat} {y : MethodName} {cy : ByteArray} {ret : Option FieldType} (h1 : Cond.methodLink own idx y ∈ WG) (h2 : Cond.instanceMethod y ∈ WG) (h3 : Cond.selects C y y ∈ WG) (h4 : Cond.initialized C ∈ WG) (h5 : Cond.code y cy ny ret ∈ WG) : GoodIn WG (wsV own idx C y (Cond.code y cy ny ret :: WG)) :=
  wg_in (wg_cons h1 (wg_cons h2 (wg_cons h3 (wg_cons h4 (wg_cons h5 (fun _ h => h))))))
theorem wg_S {own : String} {idx ny : Nat} {y : MethodName} {cy : ByteArray} {ret : Option FieldType} (h1 : Cond.methodLink own idx y ∈ WG) (h2 : Cond.static y ∈ WG) (h4 : Cond.initialized own ∈ WG) (h5 : Cond.code y cy ny ret ∈ WG) : GoodIn WG (wsS own idx y (Cond.code y cy ny ret :: WG)) :=
  wg_in (wg_cons h1 (wg_cons h2 (wg_cons h4 (wg_cons h5 (fun _ h => h)))))
theorem wg_C {ny : Nat} {y : MethodName} {cy : ByteArray} {ret : Option FieldType} (h5 : Cond.code y cy ny ret ∈ WG) : GoodIn WG (Cond.code y cy ny ret :: WG) := wg_in (wg_cons h5 (fun _ h => h))
/-- the array classes of all worlds -/
abbrev tyG (k : Nat → ClassId) : List (ClassId × FieldType) := [(k 0, .int), (k 1, .long), (k 2, .boolean), (k 3, .array .int), (k 4, .array .long), (k 5, .double)]
/-- a row of ints, of longs, of booleans, of references, of doubles -/
abbrev aI (k : Nat → ClassId) (n : Nat) (f : Nat → Int32) : va_E := .inl (k 0, n, .inl f)
abbrev aJ (k : Nat → ClassId) (n : Nat) (f : Nat → Int64) : va_E := .inl (k 1, n, .inr (.inl f))
abbrev aZ (k : Nat → ClassId) (n : Nat) (f : Nat → Int32) : va_E := .inl (k 2, n, .inl f)
abbrev aR (k : Nat → ClassId) (j n : Nat) (f : Nat → Option Nat) : va_E := .inl (k j, n, .inr (.inr (.inr (.inr f))))
abbrev aD (k : Nat → ClassId) (n : Nat) (f : Nat → UInt64) : va_E := .inl (k 5, n, .inr (.inr (.inr (.inl f))))
/-- links of private makers among nest mates: words that a method can't be handed on in its list -/
def nestW : List (String × Nat × MethodName × String) := [("Chipfold", 9, ⟨"Chipfold$Graph", "<init>", "()V"⟩, "Chipfold"), ("Chipfold$Group", 11, ⟨"Chipfold$Matrix", "<init>", "()V"⟩, "Chipfold"), ("Chipfold", 56, ⟨"Chipfold$TreeCount", "<init>", "()V"⟩, "Chipfold"), ("Chipfold", 79, ⟨"Chipfold$Drawing", "<init>", "()V"⟩, "Chipfold")]
/-- the tables hold the class of arrays of arrays of ty -/
def va_AOA (ty : FieldType) (U : State) : Prop := (Cond.arrayOver (.array ty)).before #[] U = true
theorem va_AOA.use {ty : FieldType} {A : Array Value} {U : State} (h : va_AOA ty U) : (Cond.arrayOver (.array ty)).before A U = true := h
theorem va_AOA.moved {ty : FieldType} {u U : State} (hvm : u.vm.Alike U.vm) (h : va_AOA ty u) : va_AOA ty U := by
  have e1 : (Cond.arrayOver (.array ty)).before #[] (u.setVm U.vm) = true := by rw [Cond.arrayOver_setVmC hvm]; exact h
  have e2 : (Cond.arrayOver (.array ty)).before #[] (u.setVm U.vm) = (Cond.arrayOver (.array ty)).before #[] U := by
    unfold Cond.before Cond.holds
    simp only [Cond.value]
    rfl
  unfold va_AOA
  rw [← e2]
  exact e1
def NF (U : State) : Prop := (∀ q ∈ nestW, va_Nw (.methodLinkNest q.1 q.2.1 q.2.2.1 q.2.2.2) U) ∧ va_AOA .int U ∧ va_AOA .long U
theorem NF.same {u U : State} (h : u.vm = U.vm) (hN : NF u) : NF U := ⟨fun q hq => (hN.1 q hq).same rfl h, hN.2.1.moved (by rw [h]; exact Vm.Alike.refl _), hN.2.2.moved (by rw [h]; exact Vm.Alike.refl _)⟩
theorem NF.warm {s U : State} (hW : s.WarmedH U.vm) (hN : NF s) : NF U := ⟨fun q hq => (hN.1 q hq).warmM hW, hN.2.1.moved hW.alike, hN.2.2.moved hW.alike⟩
/-- what stays through a walk -/
def Cx (p : Program) (s : State) (m : MethodId) (args : Array Value) (c : Code) (D : va_G) (k : Nat → ClassId) (A : Nat → Prop) (cc : ByteArray) (own : String) (nL : Nat) : Prop :=
  p.tables.exec = Jvm.exec ∧ c.code = cc ∧ c.maxLocals = nL ∧ s.vm.findClass own = some m.cls ∧ (∀ w ∈ WG, w.before args s = true) ∧ va_K D vwCl (tyG k) s ∧ (∀ q, s.heap.size ≤ q → A q) ∧ NF s
/-- the walk goes on well from the world ws, the locals lv, the stack st; so many cells at least are new: g -/
def G (p : Program) (l : Launch) (e : Env) (R : Room) (s : State) (m : MethodId) (args : Array Value) (below : List Frame) (meth : Method) (c : Code) (D : va_G) (nL : Nat) (A : Nat → Prop) (Q : State → Prop) (ws : va_W) (lv : List (Nat × Value)) (cells slots g pc : Nat) (st : List Value) : Prop :=
  ∀ (H : Heap) (locs : List Loc), va_P D vwCl ws H → va_D A ws → va_S A s.heap H locs → s.heap.size + g ≤ H.size → ∀ ls : Array Slot, lv_has ls nL lv → W p l e R s m args below meth c H locs cells slots Q (F0 m pc ls st)
/-- a method's contract: over the world w0 it answers and leaves what post says; of new cells there are at most mc of ms slots, and at least gr -/
def CM (l : Launch) (D : va_G) (k : Nat → ClassId) (y : MethodName) (cy : ByteArray) (ny : Nat) (ret : Option FieldType) (fr lo : Nat) (av : List Value) (w0 : va_W) (post : Option Value → va_W → Prop) (mc ms gr : Nat) : Prop :=
  ∀ sz : Nat, Met l y (Cond.code y cy ny ret :: WG) { frames := fr, cells := mc, slots := ms, locals := lo }
    (va_Pc av (fun U => U.heap.size = sz ∧ va_P D vwCl w0 U.heap ∧ va_K D vwCl (tyG k) U ∧ va_D (fun _ => True) w0 ∧ NF U))
    (fun _ st o t => (∃ (rv : Option Value) (w1 : va_W), o = .returned rv ∧ post rv w1 ∧ va_P D vwCl w1 t.heap ∧ va_D (va_A w0 sz) w1 ∧ sz + gr ≤ t.heap.size) ∧ va_F (va_A w0 sz) st t) mc ms (va_A w0 sz)
/-- one answer, one world behind it -/
abbrev is1 (r : Option Value) (w : va_W) : Option Value → va_W → Prop := fun r' w' => r' = r ∧ w' = w
/-- a method's end: what its contract owes there -/
abbrev QM (below : List Frame) (D : va_G) (args : Array Value) (s : State) (w0 : va_W) (post : Option Value → va_W → Prop) (mc ms gr : Nat) : State → Prop :=
  MQ below (fun _ st o t => (∃ (rv : Option Value) (w1 : va_W), o = .returned rv ∧ post rv w1 ∧ va_P D vwCl w1 t.heap ∧ va_D (va_A w0 s.heap.size) w1 ∧ s.heap.size + gr ≤ t.heap.size) ∧ va_F (va_A w0 s.heap.size) st t) args s mc ms (va_A w0 s.heap.size)
theorem CM.of {l : Launch} {D : va_G} {k : Nat → ClassId} {y : MethodName} {cy : ByteArray} {ny : Nat} {ret : Option FieldType} {fr lo : Nat} {av : List Value} {w0 : va_W} {post : Option Value → va_W → Prop} {mc ms gr : Nat} {lv0 : List (Nat × Value)}
    (hy : plainName y.cls = true) (hn : (lg_sl av).length ≤ ny) (hlv : lv_args 0 av = lv0)
    (body : ∀ (p : Program) (e : Env) (s : State) (m : MethodId) (below : List Frame) (meth : Method) (c : Code), Cx p s m av.toArray c D k (va_A w0 s.heap.size) cy y.cls ny → meth.sig.returnType = ret → meth.locks = false → meth.name = y.name → l.admits e →
      G p l e { frames := fr, cells := mc, slots := ms, locals := lo } s m av.toArray below meth c D ny (va_A w0 s.heap.size) (QM below D av.toArray s w0 post mc ms gr) w0 lv0 0 0 0 0 []) :
    CM l D k y cy ny ret fr lo av w0 post mc ms gr := by
  intro sz
  refine Met.ofW (cc := cy) (maxL := ny) (ret := ret) hy rfl ?_
  intro p e s m args below meth c s₁ B hml hv
  obtain ⟨rfl, hsz, hP, hK, hD0, hNF⟩ := hv
  subst hsz
  have hts0 := atoms_spec (ws := Cond.code y cy ny ret :: WG) B.pre
  have hown : s.vm.findClass y.cls = some m.cls := findClass_of_methodNamed B.named
  have hA : ∀ q : Nat, s.heap.size ≤ q → va_A w0 s.heap.size q := fun q h => Or.inr h
  have hl := lv_entry av (n := ny) hn
  rw [hlv] at hl
  rw [lg_entry_eq]
  exact body p e s m below meth c ⟨B.exec, B.bytes, hml, hown, fun w hw => hts0 w (List.mem_cons_of_mem _ hw), hK, hA, hNF⟩ B.returns B.notSynchronized (name_of_methodNamed B.named B.method).1 (Stand.of_body B).admits s.heap [] hP hD0.self va_S.rf (Nat.le_refl _) _ hl
section GG
variable {p : Program} {l : Launch} {e : Env} {R : Room} {s : State} {m : MethodId} {args : Array Value} {below : List Frame} {meth : Method} {c : Code} {D : va_G} {k : Nat → ClassId} {A : Nat → Prop} {cc : ByteArray} {own : String} {nL : Nat} {Q : State → Prop} {ws : va_W} {lv : List (Nat × Value)} {cells slots g pc : Nat} {st : List Value}
/-- fewer cells, in another order -/
theorem G.re (ps : List Nat) {ws' : va_W} (hn : va_nd ps = true) (hs : ps.map (fun i => ws[i]?) = ws'.map some) (kk : G p l e R s m args below meth c D nL A Q ws' lv cells slots g pc st) : G p l e R s m args below meth c D nL A Q ws lv cells slots g pc st := by
  intro H locs hP hD hS hZ ls hl
  have hs2 : ps.filterMap (fun i => ws[i]?) = ws' := by
    have h1 : ps.filterMap (fun i => ws[i]?) = (ps.map (fun i => ws[i]?)).filterMap id := by rw [List.filterMap_map]; rfl
    rw [h1, hs, List.filterMap_map]
    have h2 : (id ∘ some : Nat × va_E → Option (Nat × va_E)) = some := rfl
    rw [h2, List.filterMap_some]
  exact kk H locs (hP.sub ps hs2) (hD.sub ps hn hs) hS hZ ls hl
theorem G.loc {lv' : List (Nat × Value)} (ps : List Nat) (hl : lv_pick lv ps = lv') (kk : G p l e R s m args below meth c D nL A Q ws lv' cells slots g pc st) : G p l e R s m args below meth c D nL A Q ws lv cells slots g pc st := fun H locs hP hD hS hZ ls hl2 => kk H locs hP hD hS hZ ls (lv_sub hl2 ps hl)
theorem G.widen {k' n' g' : Nat} (h1 : cells ≤ k') (h2 : slots ≤ n') (h3 : g' ≤ g) (kk : G p l e R s m args below meth c D nL A Q ws lv k' n' g' pc st) : G p l e R s m args below meth c D nL A Q ws lv cells slots g pc st := fun H locs hP hD hS hZ ls hl => W.widen h1 h2 (kk H locs hP hD hS (Nat.le_trans (Nat.add_le_add_left h3 _) hZ) ls hl)
theorem G.eqw {ws' : va_W} (h : ws = ws') (kk : G p l e R s m args below meth c D nL A Q ws' lv cells slots g pc st) : G p l e R s m args below meth c D nL A Q ws lv cells slots g pc st := h ▸ kk
theorem G.eql {lv' : List (Nat × Value)} (h : lv = lv') (kk : G p l e R s m args below meth c D nL A Q ws lv' cells slots g pc st) : G p l e R s m args below meth c D nL A Q ws lv cells slots g pc st := h ▸ kk
theorem G.eqs {st' : List Value} (h : st = st') (kk : G p l e R s m args below meth c D nL A Q ws lv cells slots g pc st') : G p l e R s m args below meth c D nL A Q ws lv cells slots g pc st := h ▸ kk
/-- what a world gives: its cells are apart -/
theorem G.ap (kk : (∀ (i j : Nat) (x y : Nat × va_E), ws[i]? = some x → ws[j]? = some y → x.1 = y.1 → i = j) → G p l e R s m args below meth c D nL A Q ws lv cells slots g pc st) : G p l e R s m args below meth c D nL A Q ws lv cells slots g pc st := fun H locs hP hD hS hZ ls hl => kk hD.1 H locs hP hD hS hZ ls hl
theorem g_iload (C : Cx p s m args c D k A cc own nL) {i : Nat} {x : Int32} (j : Nat) (hv : lv[j]? = some (i, .int x)) (hdg : decode cc pc = .ok (.iload i, 2)) (kk : G p l e R s m args below meth c D nL A Q ws lv cells slots g (pc + 2) (.int x :: st)) : G p l e R s m args below meth c D nL A Q ws lv cells slots g pc st := fun H locs hP hD hS hZ ls hl => lv_iload C.1 C.2.1 hdg (lv_at hl j hv) (kk H locs hP hD hS hZ ls hl)
theorem g_iload_n (C : Cx p s m args c D k A cc own nL) {n : Fin 4} {i : Nat} {x : Int32} (j : Nat) (hi : (n : Nat) = i) (hv : lv[j]? = some (i, .int x)) (hdg : decode cc pc = .ok (.iload_n n, 1)) (kk : G p l e R s m args below meth c D nL A Q ws lv cells slots g (pc + 1) (.int x :: st)) : G p l e R s m args below meth c D nL A Q ws lv cells slots g pc st := fun H locs hP hD hS hZ ls hl => lv_iload_n C.1 C.2.1 hdg hi (lv_at hl j hv) (kk H locs hP hD hS hZ ls hl)
theorem g_aload (C : Cx p s m args c D k A cc own nL) {i : Nat} {x : Nat} (j : Nat) (hv : lv[j]? = some (i, .ref x)) (hdg : decode cc pc = .ok (.aload i, 2)) (kk : G p l e R s m args below meth c D nL A Q ws lv cells slots g (pc + 2) (.ref x :: st)) : G p l e R s m args below meth c D nL A Q ws lv cells slots g pc st := fun H locs hP hD hS hZ ls hl => lv_aload C.1 C.2.1 hdg (lv_at hl j hv) (kk H locs hP hD hS hZ ls hl)
theorem g_aload_n (C : Cx p s m args c D k A cc own nL) {n : Fin 4} {i : Nat} {x : Nat} (j : Nat) (hi : (n : Nat) = i) (hv : lv[j]? = some (i, .ref x)) (hdg : decode cc pc = .ok (.aload_n n, 1)) (kk : G p l e R s m args below meth c D nL A Q ws lv cells slots g (pc + 1) (.ref x :: st)) : G p l e R s m args below meth c D nL A Q ws lv cells slots g pc st := fun H locs hP hD hS hZ ls hl => lv_aload_n C.1 C.2.1 hdg hi (lv_at hl j hv) (kk H locs hP hD hS hZ ls hl)
theorem g_lload (C : Cx p s m args c D k A cc own nL) {i : Nat} {x : Int64} (j : Nat) (hv : lv[j]? = some (i, .long x)) (hdg : decode cc pc = .ok (.lload i, 2)) (kk : G p l e R s m args below meth c D nL A Q ws lv cells slots g (pc + 2) (.long x :: st)) : G p l e R s m args below meth c D nL A Q ws lv cells slots g pc st := fun H locs hP hD hS hZ ls hl => lv_lload C.1 C.2.1 hdg (lv_at hl j hv) (kk H locs hP hD hS hZ ls hl)
theorem g_lload_n (C : Cx p s m args c D k A cc own nL) {n : Fin 4} {i : Nat} {x : Int64} (j : Nat) (hi : (n : Nat) = i) (hv : lv[j]? = some (i, .long x)) (hdg : decode cc pc = .ok (.lload_n n, 1)) (kk : G p l e R s m args below meth c D nL A Q ws lv cells slots g (pc + 1) (.long x :: st)) : G p l e R s m args below meth c D nL A Q ws lv cells slots g pc st := fun H locs hP hD hS hZ ls hl => lv_lload_n C.1 C.2.1 hdg hi (lv_at hl j hv) (kk H locs hP hD hS hZ ls hl)
theorem g_fload (C : Cx p s m args c D k A cc own nL) {i : Nat} {x : UInt32} (j : Nat) (hv : lv[j]? = some (i, .float x)) (hdg : decode cc pc = .ok (.fload i, 2)) (kk : G p l e R s m args below meth c D nL A Q ws lv cells slots g (pc + 2) (.float x :: st)) : G p l e R s m args below meth c D nL A Q ws lv cells slots g pc st := fun H locs hP hD hS hZ ls hl => lv_fload C.1 C.2.1 hdg (lv_at hl j hv) (kk H locs hP hD hS hZ ls hl)
theorem g_fload_n (C : Cx p s m args c D k A cc own nL) {n : Fin 4} {i : Nat} {x : UInt32} (j : Nat) (hi : (n : Nat) = i) (hv : lv[j]? = some (i, .float x)) (hdg : decode cc pc = .ok (.fload_n n, 1)) (kk : G p l e R s m args below meth c D nL A Q ws lv cells slots g (pc + 1) (.float x :: st)) : G p l e R s m args below meth c D nL A Q ws lv cells slots g pc st := fun H locs hP hD hS hZ ls hl => lv_fload_n C.1 C.2.1 hdg hi (lv_at hl j hv) (kk H locs hP hD hS hZ ls hl)
theorem g_dload (C : Cx p s m args c D k A cc own nL) {i : Nat} {x : UInt64} (j : Nat) (hv : lv[j]? = some (i, .double x)) (hdg : decode cc pc = .ok (.dload i, 2)) (kk : G p l e R s m args below meth c D nL A Q ws lv cells slots g (pc + 2) (.double x :: st)) : G p l e R s m args below meth c D nL A Q ws lv cells slots g pc st := fun H locs hP hD hS hZ ls hl => lv_dload C.1 C.2.1 hdg (lv_at hl j hv) (kk H locs hP hD hS hZ ls hl)
theorem g_dload_n (C : Cx p s m args c D k A cc own nL) {n : Fin 4} {i : Nat} {x : UInt64} (j : Nat) (hi : (n : Nat) = i) (hv : lv[j]? = some (i, .double x)) (hdg : decode cc pc = .ok (.dload_n n, 1)) (kk : G p l e R s m args below meth c D nL A Q ws lv cells slots g (pc + 1) (.double x :: st)) : G p l e R s m args below meth c D nL A Q ws lv cells slots g pc st := fun H locs hP hD hS hZ ls hl => lv_dload_n C.1 C.2.1 hdg hi (lv_at hl j hv) (kk H locs hP hD hS hZ ls hl)
theorem g_iconst (C : Cx p s m args c D k A cc own nL) {n : Int} {v : Int32} (hv : Int32.ofInt n = v) (hdg : decode cc pc = .ok (.iconst n, 1)) (kk : G p l e R s m args below meth c D nL A Q ws lv cells slots g (pc + 1) (.int v :: st)) : G p l e R s m args below meth c D nL A Q ws lv cells slots g pc st := fun H locs hP hD hS hZ ls hl => lv_iconst C.1 C.2.1 hdg hv (kk H locs hP hD hS hZ ls hl)
theorem g_bipush (C : Cx p s m args c D k A cc own nL) {n : Int} {v : Int32} (hv : (Int8.ofInt n).toInt32 = v) (hdg : decode cc pc = .ok (.bipush n, 2)) (kk : G p l e R s m args below meth c D nL A Q ws lv cells slots g (pc + 2) (.int v :: st)) : G p l e R s m args below meth c D nL A Q ws lv cells slots g pc st := fun H locs hP hD hS hZ ls hl => lv_bipush C.1 C.2.1 hdg hv (kk H locs hP hD hS hZ ls hl)
theorem g_sipush (C : Cx p s m args c D k A cc own nL) {n : Int} {v : Int32} (hv : (Int16.ofInt n).toInt32 = v) (hdg : decode cc pc = .ok (.sipush n, 3)) (kk : G p l e R s m args below meth c D nL A Q ws lv cells slots g (pc + 3) (.int v :: st)) : G p l e R s m args below meth c D nL A Q ws lv cells slots g pc st := fun H locs hP hD hS hZ ls hl => lv_sipush C.1 C.2.1 hdg hv (kk H locs hP hD hS hZ ls hl)
theorem g_lconst (C : Cx p s m args c D k A cc own nL) {n : Fin 2} {v : Int64} (hv : Int64.ofNat (n : Nat) = v) (hdg : decode cc pc = .ok (.lconst n, 1)) (kk : G p l e R s m args below meth c D nL A Q ws lv cells slots g (pc + 1) (.long v :: st)) : G p l e R s m args below meth c D nL A Q ws lv cells slots g pc st := fun H locs hP hD hS hZ ls hl => lv_lconst C.1 C.2.1 hdg hv (kk H locs hP hD hS hZ ls hl)
theorem g_ldc (C : Cx p s m args c D k A cc own nL) {idx : Nat} {v : Int32} (hc : Cond.constant own idx v ∈ WG) (hdg : decode cc pc = .ok (.ldc idx, 2)) (kk : G p l e R s m args below meth c D nL A Q ws lv cells slots g (pc + 2) (.int v :: st)) : G p l e R s m args below meth c D nL A Q ws lv cells slots g pc st := fun H locs hP hD hS hZ ls hl => lv_ldc C.1 C.2.1 C.2.2.2.1 (C.2.2.2.2.1 _ hc) hdg (kk H locs hP hD hS hZ ls hl)
theorem g_ldcw (C : Cx p s m args c D k A cc own nL) {idx : Nat} {v : Int32} (hc : Cond.constant own idx v ∈ WG) (hdg : decode cc pc = .ok (.ldc_w idx, 3)) (kk : G p l e R s m args below meth c D nL A Q ws lv cells slots g (pc + 3) (.int v :: st)) : G p l e R s m args below meth c D nL A Q ws lv cells slots g pc st := fun H locs hP hD hS hZ ls hl => lv_ldcw C.1 C.2.1 C.2.2.2.1 (C.2.2.2.2.1 _ hc) hdg (kk H locs hP hD hS hZ ls hl)
theorem g_iadd (C : Cx p s m args c D k A cc own nL) {x y : Int32} (hdg : decode cc pc = .ok (.iadd, 1)) (kk : G p l e R s m args below meth c D nL A Q ws lv cells slots g (pc + 1) (.int (x + y) :: st)) : G p l e R s m args below meth c D nL A Q ws lv cells slots g pc (.int y :: .int x :: st) := fun H locs hP hD hS hZ ls hl => lv_iadd C.1 C.2.1 hdg (kk H locs hP hD hS hZ ls hl)
theorem g_isub (C : Cx p s m args c D k A cc own nL) {x y : Int32} (hdg : decode cc pc = .ok (.isub, 1)) (kk : G p l e R s m args below meth c D nL A Q ws lv cells slots g (pc + 1) (.int (x - y) :: st)) : G p l e R s m args below meth c D nL A Q ws lv cells slots g pc (.int y :: .int x :: st) := fun H locs hP hD hS hZ ls hl => lv_isub C.1 C.2.1 hdg (kk H locs hP hD hS hZ ls hl)
theorem g_imul (C : Cx p s m args c D k A cc own nL) {x y : Int32} (hdg : decode cc pc = .ok (.imul, 1)) (kk : G p l e R s m args below meth c D nL A Q ws lv cells slots g (pc + 1) (.int (x * y) :: st)) : G p l e R s m args below meth c D nL A Q ws lv cells slots g pc (.int y :: .int x :: st) := fun H locs hP hD hS hZ ls hl => lv_imul C.1 C.2.1 hdg (kk H locs hP hD hS hZ ls hl)
theorem g_iand (C : Cx p s m args c D k A cc own nL) {x y : Int32} (hdg : decode cc pc = .ok (.iand, 1)) (kk : G p l e R s m args below meth c D nL A Q ws lv cells slots g (pc + 1) (.int (x &&& y) :: st)) : G p l e R s m args below meth c D nL A Q ws lv cells slots g pc (.int y :: .int x :: st) := fun H locs hP hD hS hZ ls hl => lv_iand C.1 C.2.1 hdg (kk H locs hP hD hS hZ ls hl)
theorem g_ior (C : Cx p s m args c D k A cc own nL) {x y : Int32} (hdg : decode cc pc = .ok (.ior, 1)) (kk : G p l e R s m args below meth c D nL A Q ws lv cells slots g (pc + 1) (.int (x ||| y) :: st)) : G p l e R s m args below meth c D nL A Q ws lv cells slots g pc (.int y :: .int x :: st) := fun H locs hP hD hS hZ ls hl => lv_ior C.1 C.2.1 hdg (kk H locs hP hD hS hZ ls hl)
theorem g_ishl (C : Cx p s m args c D k A cc own nL) {x y : Int32} (hdg : decode cc pc = .ok (.ishl, 1)) (kk : G p l e R s m args below meth c D nL A Q ws lv cells slots g (pc + 1) (.int (x <<< (y &&& 31)) :: st)) : G p l e R s m args below meth c D nL A Q ws lv cells slots g pc (.int y :: .int x :: st) := fun H locs hP hD hS hZ ls hl => lv_ishl C.1 C.2.1 hdg (kk H locs hP hD hS hZ ls hl)
theorem g_ishr (C : Cx p s m args c D k A cc own nL) {x y : Int32} (hdg : decode cc pc = .ok (.ishr, 1)) (kk : G p l e R s m args below meth c D nL A Q ws lv cells slots g (pc + 1) (.int (x >>> (y &&& 31)) :: st)) : G p l e R s m args below meth c D nL A Q ws lv cells slots g pc (.int y :: .int x :: st) := fun H locs hP hD hS hZ ls hl => lv_ishr C.1 C.2.1 hdg (kk H locs hP hD hS hZ ls hl)
theorem g_idiv (C : Cx p s m args c D k A cc own nL) {x y : Int32} (hne : ¬ y = 0) (hdg : decode cc pc = .ok (.idiv, 1)) (kk : G p l e R s m args below meth c D nL A Q ws lv cells slots g (pc + 1) (.int (x / y) :: st)) : G p l e R s m args below meth c D nL A Q ws lv cells slots g pc (.int y :: .int x :: st) := fun H locs hP hD hS hZ ls hl => lv_idiv C.1 C.2.1 hdg hne (kk H locs hP hD hS hZ ls hl)
theorem g_irem (C : Cx p s m args c D k A cc own nL) {x y : Int32} (hne : ¬ y = 0) (hdg : decode cc pc = .ok (.irem, 1)) (kk : G p l e R s m args below meth c D nL A Q ws lv cells slots g (pc + 1) (.int (x - x / y * y) :: st)) : G p l e R s m args below meth c D nL A Q ws lv cells slots g pc (.int y :: .int x :: st) := fun H locs hP hD hS hZ ls hl => lv_irem C.1 C.2.1 hdg hne (kk H locs hP hD hS hZ ls hl)
theorem g_ineg (C : Cx p s m args c D k A cc own nL) {x : Int32} (hdg : decode cc pc = .ok (.ineg, 1)) (kk : G p l e R s m args below meth c D nL A Q ws lv cells slots g (pc + 1) (.int (-x) :: st)) : G p l e R s m args below meth c D nL A Q ws lv cells slots g pc (.int x :: st) := fun H locs hP hD hS hZ ls hl => lv_ineg C.1 C.2.1 hdg (kk H locs hP hD hS hZ ls hl)
theorem g_ladd (C : Cx p s m args c D k A cc own nL) {x y : Int64} (hdg : decode cc pc = .ok (.ladd, 1)) (kk : G p l e R s m args below meth c D nL A Q ws lv cells slots g (pc + 1) (.long (x + y) :: st)) : G p l e R s m args below meth c D nL A Q ws lv cells slots g pc (.long y :: .long x :: st) := fun H locs hP hD hS hZ ls hl => lv_ladd C.1 C.2.1 hdg (kk H locs hP hD hS hZ ls hl)
theorem g_lsub (C : Cx p s m args c D k A cc own nL) {x y : Int64} (hdg : decode cc pc = .ok (.lsub, 1)) (kk : G p l e R s m args below meth c D nL A Q ws lv cells slots g (pc + 1) (.long (x - y) :: st)) : G p l e R s m args below meth c D nL A Q ws lv cells slots g pc (.long y :: .long x :: st) := fun H locs hP hD hS hZ ls hl => lv_lsub C.1 C.2.1 hdg (kk H locs hP hD hS hZ ls hl)
theorem g_lmul (C : Cx p s m args c D k A cc own nL) {x y : Int64} (hdg : decode cc pc = .ok (.lmul, 1)) (kk : G p l e R s m args below meth c D nL A Q ws lv cells slots g (pc + 1) (.long (x * y) :: st)) : G p l e R s m args below meth c D nL A Q ws lv cells slots g pc (.long y :: .long x :: st) := fun H locs hP hD hS hZ ls hl => lv_lmul C.1 C.2.1 hdg (kk H locs hP hD hS hZ ls hl)
theorem g_i2l (C : Cx p s m args c D k A cc own nL) {x : Int32} (hdg : decode cc pc = .ok (.i2l, 1)) (kk : G p l e R s m args below meth c D nL A Q ws lv cells slots g (pc + 1) (.long x.toInt64 :: st)) : G p l e R s m args below meth c D nL A Q ws lv cells slots g pc (.int x :: st) := fun H locs hP hD hS hZ ls hl => lv_i2l C.1 C.2.1 hdg rfl (kk H locs hP hD hS hZ ls hl)
theorem g_dup (C : Cx p s m args c D k A cc own nL) {v : Value} (hv : v.category = 1) (hdg : decode cc pc = .ok (.dup, 1)) (kk : G p l e R s m args below meth c D nL A Q ws lv cells slots g (pc + 1) (v :: v :: st)) : G p l e R s m args below meth c D nL A Q ws lv cells slots g pc (v :: st) := fun H locs hP hD hS hZ ls hl => lv_dup C.1 C.2.1 hdg hv (kk H locs hP hD hS hZ ls hl)
theorem g_pop (C : Cx p s m args c D k A cc own nL) {v : Value} (hv : v.category = 1) (hdg : decode cc pc = .ok (.pop, 1)) (kk : G p l e R s m args below meth c D nL A Q ws lv cells slots g (pc + 1) st) : G p l e R s m args below meth c D nL A Q ws lv cells slots g pc (v :: st) := fun H locs hP hD hS hZ ls hl => lv_pop C.1 C.2.1 hdg hv (kk H locs hP hD hS hZ ls hl)
theorem g_dup2 (C : Cx p s m args c D k A cc own nL) {v u : Value} (hv : v.category = 1) (hu : u.category = 1) (hdg : decode cc pc = .ok (.dup2, 1)) (kk : G p l e R s m args below meth c D nL A Q ws lv cells slots g (pc + 1) (v :: u :: v :: u :: st)) : G p l e R s m args below meth c D nL A Q ws lv cells slots g pc (v :: u :: st) := fun H locs hP hD hS hZ ls hl => lv_dup2_11 C.1 C.2.1 hdg hv hu (kk H locs hP hD hS hZ ls hl)
theorem g_null (C : Cx p s m args c D k A cc own nL)  (hdg : decode cc pc = .ok (.aconst_null, 1)) (kk : G p l e R s m args below meth c D nL A Q ws lv cells slots g (pc + 1) (.null :: st)) : G p l e R s m args below meth c D nL A Q ws lv cells slots g pc st := fun H locs hP hD hS hZ ls hl => lv_null C.1 C.2.1 hdg (kk H locs hP hD hS hZ ls hl)
theorem g_istore (C : Cx p s m args c D k A cc own nL) {i : Nat} {x : Int32} (lv' : List (Nat × Value)) (hdg : decode cc pc = .ok (.istore i, 2)) (hn : i < nL) (hf : (i, Value.int x) :: lv.filter (fun q => !(q.1 == i) && !(q.1 + 1 == i && q.2.category == 2)) = lv') (kk : G p l e R s m args below meth c D nL A Q ws lv' cells slots g (pc + 2) st) : G p l e R s m args below meth c D nL A Q ws lv cells slots g pc (.int x :: st) := fun H locs hP hD hS hZ ls hl => lv_istore C.1 C.2.1 hdg hl hn hf (fun ls hl => kk H locs hP hD hS hZ ls hl)
theorem g_istore_n (C : Cx p s m args c D k A cc own nL) {n : Fin 4} {i : Nat} {x : Int32} (lv' : List (Nat × Value)) (hi : (n : Nat) = i) (hdg : decode cc pc = .ok (.istore_n n, 1)) (hn : i < nL) (hf : (i, Value.int x) :: lv.filter (fun q => !(q.1 == i) && !(q.1 + 1 == i && q.2.category == 2)) = lv') (kk : G p l e R s m args below meth c D nL A Q ws lv' cells slots g (pc + 1) st) : G p l e R s m args below meth c D nL A Q ws lv cells slots g pc (.int x :: st) := fun H locs hP hD hS hZ ls hl => lv_istore_n C.1 C.2.1 hdg hi hl hn hf (fun ls hl => kk H locs hP hD hS hZ ls hl)
theorem g_astore (C : Cx p s m args c D k A cc own nL) {i : Nat} {x : Nat} (lv' : List (Nat × Value)) (hdg : decode cc pc = .ok (.astore i, 2)) (hn : i < nL) (hf : (i, Value.ref x) :: lv.filter (fun q => !(q.1 == i) && !(q.1 + 1 == i && q.2.category == 2)) = lv') (kk : G p l e R s m args below meth c D nL A Q ws lv' cells slots g (pc + 2) st) : G p l e R s m args below meth c D nL A Q ws lv cells slots g pc (.ref x :: st) := fun H locs hP hD hS hZ ls hl => lv_astore C.1 C.2.1 hdg hl hn hf (fun ls hl => kk H locs hP hD hS hZ ls hl)
theorem g_astore_n (C : Cx p s m args c D k A cc own nL) {n : Fin 4} {i : Nat} {x : Nat} (lv' : List (Nat × Value)) (hi : (n : Nat) = i) (hdg : decode cc pc = .ok (.astore_n n, 1)) (hn : i < nL) (hf : (i, Value.ref x) :: lv.filter (fun q => !(q.1 == i) && !(q.1 + 1 == i && q.2.category == 2)) = lv') (kk : G p l e R s m args below meth c D nL A Q ws lv' cells slots g (pc + 1) st) : G p l e R s m args below meth c D nL A Q ws lv cells slots g pc (.ref x :: st) := fun H locs hP hD hS hZ ls hl => lv_astore_n C.1 C.2.1 hdg hi hl hn hf (fun ls hl => kk H locs hP hD hS hZ ls hl)
theorem g_iinc (C : Cx p s m args c D k A cc own nL) {i : Nat} {n : Int} {x v : Int32} (j : Nat) (lv' : List (Nat × Value)) (hk : lv[j]? = some (i, .int x)) (hv : x + Int32.ofInt n = v) (hdg : decode cc pc = .ok (.iinc i n, 3)) (hn : i < nL) (hf : (i, Value.int v) :: lv.filter (fun q => !(q.1 == i) && !(q.1 + 1 == i && q.2.category == 2)) = lv') (kk : G p l e R s m args below meth c D nL A Q ws lv' cells slots g (pc + 3) st) : G p l e R s m args below meth c D nL A Q ws lv cells slots g pc st := fun H locs hP hD hS hZ ls hl => lv_iinc C.1 C.2.1 hdg hl hk hv hn hf (fun ls hl => kk H locs hP hD hS hZ ls hl)
theorem g_goto (C : Cx p s m args c D k A cc own nL) {off : Int} (tgt : Nat) (ht : (pc : Int) + off = (tgt : Int)) (hdg : decode cc pc = .ok (.goto off, 3)) (kk : G p l e R s m args below meth c D nL A Q ws lv cells slots g tgt st) : G p l e R s m args below meth c D nL A Q ws lv cells slots g pc st := fun H locs hP hD hS hZ ls hl => lv_goto C.1 C.2.1 hdg ht (kk H locs hP hD hS hZ ls hl)
theorem g_if_eq (C : Cx p s m args c D k A cc own nL) {x : Int32} {off : Int} (tgt : Nat) (ht : (pc : Int) + off = (tgt : Int)) (hdg : decode cc pc = .ok (.ifCond .eq off, 3)) (kt : x = 0 → G p l e R s m args below meth c D nL A Q ws lv cells slots g tgt st) (kf : ¬ x = 0 → G p l e R s m args below meth c D nL A Q ws lv cells slots g (pc + 3) st) : G p l e R s m args below meth c D nL A Q ws lv cells slots g pc (.int x :: st) := fun H locs hP hD hS hZ ls hl => lv_if_eq C.1 C.2.1 hdg ht (fun h => kt h H locs hP hD hS hZ ls hl) (fun h => kf h H locs hP hD hS hZ ls hl)
theorem g_if_ne (C : Cx p s m args c D k A cc own nL) {x : Int32} {off : Int} (tgt : Nat) (ht : (pc : Int) + off = (tgt : Int)) (hdg : decode cc pc = .ok (.ifCond .ne off, 3)) (kt : ¬ x = 0 → G p l e R s m args below meth c D nL A Q ws lv cells slots g tgt st) (kf : x = 0 → G p l e R s m args below meth c D nL A Q ws lv cells slots g (pc + 3) st) : G p l e R s m args below meth c D nL A Q ws lv cells slots g pc (.int x :: st) := fun H locs hP hD hS hZ ls hl => lv_if_ne C.1 C.2.1 hdg ht (fun h => kt h H locs hP hD hS hZ ls hl) (fun h => kf h H locs hP hD hS hZ ls hl)
theorem g_if_lt (C : Cx p s m args c D k A cc own nL) {x : Int32} {off : Int} (tgt : Nat) (ht : (pc : Int) + off = (tgt : Int)) (hdg : decode cc pc = .ok (.ifCond .lt off, 3)) (kt : x < 0 → G p l e R s m args below meth c D nL A Q ws lv cells slots g tgt st) (kf : ¬ x < 0 → G p l e R s m args below meth c D nL A Q ws lv cells slots g (pc + 3) st) : G p l e R s m args below meth c D nL A Q ws lv cells slots g pc (.int x :: st) := fun H locs hP hD hS hZ ls hl => lv_if_lt C.1 C.2.1 hdg ht (fun h => kt h H locs hP hD hS hZ ls hl) (fun h => kf h H locs hP hD hS hZ ls hl)
theorem g_if_ge (C : Cx p s m args c D k A cc own nL) {x : Int32} {off : Int} (tgt : Nat) (ht : (pc : Int) + off = (tgt : Int)) (hdg : decode cc pc = .ok (.ifCond .ge off, 3)) (kt : 0 ≤ x → G p l e R s m args below meth c D nL A Q ws lv cells slots g tgt st) (kf : ¬ 0 ≤ x → G p l e R s m args below meth c D nL A Q ws lv cells slots g (pc + 3) st) : G p l e R s m args below meth c D nL A Q ws lv cells slots g pc (.int x :: st) := fun H locs hP hD hS hZ ls hl => lv_if_ge C.1 C.2.1 hdg ht (fun h => kt h H locs hP hD hS hZ ls hl) (fun h => kf h H locs hP hD hS hZ ls hl)
theorem g_if_gt (C : Cx p s m args c D k A cc own nL) {x : Int32} {off : Int} (tgt : Nat) (ht : (pc : Int) + off = (tgt : Int)) (hdg : decode cc pc = .ok (.ifCond .gt off, 3)) (kt : 0 < x → G p l e R s m args below meth c D nL A Q ws lv cells slots g tgt st) (kf : ¬ 0 < x → G p l e R s m args below meth c D nL A Q ws lv cells slots g (pc + 3) st) : G p l e R s m args below meth c D nL A Q ws lv cells slots g pc (.int x :: st) := fun H locs hP hD hS hZ ls hl => lv_if_gt C.1 C.2.1 hdg ht (fun h => kt h H locs hP hD hS hZ ls hl) (fun h => kf h H locs hP hD hS hZ ls hl)
theorem g_if_le (C : Cx p s m args c D k A cc own nL) {x : Int32} {off : Int} (tgt : Nat) (ht : (pc : Int) + off = (tgt : Int)) (hdg : decode cc pc = .ok (.ifCond .le off, 3)) (kt : x ≤ 0 → G p l e R s m args below meth c D nL A Q ws lv cells slots g tgt st) (kf : ¬ x ≤ 0 → G p l e R s m args below meth c D nL A Q ws lv cells slots g (pc + 3) st) : G p l e R s m args below meth c D nL A Q ws lv cells slots g pc (.int x :: st) := fun H locs hP hD hS hZ ls hl => lv_if_le C.1 C.2.1 hdg ht (fun h => kt h H locs hP hD hS hZ ls hl) (fun h => kf h H locs hP hD hS hZ ls hl)
theorem g_icmp_eq (C : Cx p s m args c D k A cc own nL) {x y : Int32} {off : Int} (tgt : Nat) (ht : (pc : Int) + off = (tgt : Int)) (hdg : decode cc pc = .ok (.if_icmp .eq off, 3)) (kt : x = y → G p l e R s m args below meth c D nL A Q ws lv cells slots g tgt st) (kf : ¬ x = y → G p l e R s m args below meth c D nL A Q ws lv cells slots g (pc + 3) st) : G p l e R s m args below meth c D nL A Q ws lv cells slots g pc (.int y :: .int x :: st) := fun H locs hP hD hS hZ ls hl => lv_icmp_eq C.1 C.2.1 hdg ht (fun h => kt h H locs hP hD hS hZ ls hl) (fun h => kf h H locs hP hD hS hZ ls hl)
theorem g_icmp_ne (C : Cx p s m args c D k A cc own nL) {x y : Int32} {off : Int} (tgt : Nat) (ht : (pc : Int) + off = (tgt : Int)) (hdg : decode cc pc = .ok (.if_icmp .ne off, 3)) (kt : ¬ x = y → G p l e R s m args below meth c D nL A Q ws lv cells slots g tgt st) (kf : x = y → G p l e R s m args below meth c D nL A Q ws lv cells slots g (pc + 3) st) : G p l e R s m args below meth c D nL A Q ws lv cells slots g pc (.int y :: .int x :: st) := fun H locs hP hD hS hZ ls hl => lv_icmp_ne C.1 C.2.1 hdg ht (fun h => kt h H locs hP hD hS hZ ls hl) (fun h => kf h H locs hP hD hS hZ ls hl)
theorem g_icmp_lt (C : Cx p s m args c D k A cc own nL) {x y : Int32} {off : Int} (tgt : Nat) (ht : (pc : Int) + off = (tgt : Int)) (hdg : decode cc pc = .ok (.if_icmp .lt off, 3)) (kt : x < y → G p l e R s m args below meth c D nL A Q ws lv cells slots g tgt st) (kf : ¬ x < y → G p l e R s m args below meth c D nL A Q ws lv cells slots g (pc + 3) st) : G p l e R s m args below meth c D nL A Q ws lv cells slots g pc (.int y :: .int x :: st) := fun H locs hP hD hS hZ ls hl => lv_icmp_lt C.1 C.2.1 hdg ht (fun h => kt h H locs hP hD hS hZ ls hl) (fun h => kf h H locs hP hD hS hZ ls hl)
theorem g_icmp_ge (C : Cx p s m args c D k A cc own nL) {x y : Int32} {off : Int} (tgt : Nat) (ht : (pc : Int) + off = (tgt : Int)) (hdg : decode cc pc = .ok (.if_icmp .ge off, 3)) (kt : y ≤ x → G p l e R s m args below meth c D nL A Q ws lv cells slots g tgt st) (kf : ¬ y ≤ x → G p l e R s m args below meth c D nL A Q ws lv cells slots g (pc + 3) st) : G p l e R s m args below meth c D nL A Q ws lv cells slots g pc (.int y :: .int x :: st) := fun H locs hP hD hS hZ ls hl => lv_icmp_ge C.1 C.2.1 hdg ht (fun h => kt h H locs hP hD hS hZ ls hl) (fun h => kf h H locs hP hD hS hZ ls hl)
theorem g_icmp_gt (C : Cx p s m args c D k A cc own nL) {x y : Int32} {off : Int} (tgt : Nat) (ht : (pc : Int) + off = (tgt : Int)) (hdg : decode cc pc = .ok (.if_icmp .gt off, 3)) (kt : y < x → G p l e R s m args below meth c D nL A Q ws lv cells slots g tgt st) (kf : ¬ y < x → G p l e R s m args below meth c D nL A Q ws lv cells slots g (pc + 3) st) : G p l e R s m args below meth c D nL A Q ws lv cells slots g pc (.int y :: .int x :: st) := fun H locs hP hD hS hZ ls hl => lv_icmp_gt C.1 C.2.1 hdg ht (fun h => kt h H locs hP hD hS hZ ls hl) (fun h => kf h H locs hP hD hS hZ ls hl)
theorem g_icmp_le (C : Cx p s m args c D k A cc own nL) {x y : Int32} {off : Int} (tgt : Nat) (ht : (pc : Int) + off = (tgt : Int)) (hdg : decode cc pc = .ok (.if_icmp .le off, 3)) (kt : x ≤ y → G p l e R s m args below meth c D nL A Q ws lv cells slots g tgt st) (kf : ¬ x ≤ y → G p l e R s m args below meth c D nL A Q ws lv cells slots g (pc + 3) st) : G p l e R s m args below meth c D nL A Q ws lv cells slots g pc (.int y :: .int x :: st) := fun H locs hP hD hS hZ ls hl => lv_icmp_le C.1 C.2.1 hdg ht (fun h => kt h H locs hP hD hS hZ ls hl) (fun h => kf h H locs hP hD hS hZ ls hl)
theorem S_rf {A : Nat → Prop} {H0 H : Heap} {locs : List Loc} (h : va_S A H0 H locs) : va_S A H H locs := ⟨Nat.le_refl _, fun _ _ _ => rfl, h.2.2⟩
theorem S_tr {A : Nat → Prop} {H0 H H1 : Heap} {locs locs1 : List Loc} (h : va_S A H0 H locs) (h2 : va_S A H H1 locs1) : va_S A H0 H1 locs1 := ⟨Nat.le_trans h.1 h2.1, fun q hq hn => (h2.2.1 q (Nat.lt_of_lt_of_le hq h.1) hn).trans (h.2.1 q hq hn), h2.2.2⟩
theorem g_get (C : Cx p s m args c D k A cc own nL) {ref Cn : String} {T : u_T} {N ci idx a : Nat} {fs : List Value} (hin : ∀ w ∈ u_ws Cn T N, w ∈ WG) (q0 : Nat) (he : ws[q0]? = some (a, .inr (ci, fs))) (hc : vwCl[ci]? = some (Cn, T, N)) (kf : Nat) (hk : kf < N) (hlink : Cond.fieldLink own idx ref (T kf).2.1 (T kf).2.2.1 ∈ WG) (hsame : (T kf).1 = ref) {v : Value} (hv : fs[kf]? = some v) (hdg : decode cc pc = .ok (.getfield idx, 3)) (kk : G p l e R s m args below meth c D nL A Q ws lv cells slots g (pc + 3) (v :: st)) : G p l e R s m args below meth c D nL A Q ws lv cells slots g pc (.ref a :: st) := fun H locs hP hD hS hZ ls hl => va_get C.1 C.2.1 C.2.2.2.2.1 hin C.2.2.2.1 C.2.2.2.2.2.1 hP q0 he hc kf hk (C.2.2.2.2.1 _ hlink) (fun x h => by rw [← hsame]; exact h) hv hdg (kk H locs hP hD hS hZ ls hl)
theorem g_getN (C : Cx p s m args c D k A cc own nL) {ref Cn host : String} {T : u_T} {N ci idx a : Nat} {fs : List Value} (hin : ∀ w ∈ u_ws Cn T N, w ∈ WG) (q0 : Nat) (he : ws[q0]? = some (a, .inr (ci, fs))) (hc : vwCl[ci]? = some (Cn, T, N)) (kf : Nat) (hk : kf < N) (hlink : Cond.fieldLinkNest own idx ref (T kf).2.1 (T kf).2.2.1 host ∈ WG) (hsame : (T kf).1 = ref) {v : Value} (hv : fs[kf]? = some v) (hdg : decode cc pc = .ok (.getfield idx, 3)) (kk : G p l e R s m args below meth c D nL A Q ws lv cells slots g (pc + 3) (v :: st)) : G p l e R s m args below meth c D nL A Q ws lv cells slots g pc (.ref a :: st) := fun H locs hP hD hS hZ ls hl => va_getN C.1 C.2.1 C.2.2.2.2.1 hin C.2.2.2.1 C.2.2.2.2.2.1 hP q0 he hc kf hk (C.2.2.2.2.1 _ hlink) (fun x h => by rw [← hsame]; exact h) hv hdg (kk H locs hP hD hS hZ ls hl)
theorem g_put (C : Cx p s m args c D k A cc own nL) {ref Cn : String} {T : u_T} {N ci idx a : Nat} {fs : List Value} (hin : ∀ w ∈ u_ws Cn T N, w ∈ WG) (q0 : Nat) (he : ws[q0]? = some (a, .inr (ci, fs))) (hc : vwCl[ci]? = some (Cn, T, N)) (kf : Nat) (hk : kf < N) (hlink : Cond.fieldLink own idx ref (T kf).2.1 (T kf).2.2.1 ∈ WG) (hsame : (T kf).1 = ref) (ty0 : Nat → FieldType) (hty : ∀ i, i < N → parseFieldDescriptor (T i).2.2.1 = some (ty0 i)) (hnm : ∀ a, a < N → ∀ b, b < N → a ≠ b → (T a).2.1 ≠ (T b).2.1) (hfin : (T kf).2.2.2 = false) {ty : FieldType} {v : Value} (ws' : va_W) (hd : parseFieldDescriptor (T kf).2.2.1 = some ty) (hnr : narrow ty v = v) (hfit : fits ty v = true) (hl0 : kf < fs.length) (hw : ws.set q0 (a, .inr (ci, fs.set kf v)) = ws') (hdg : decode cc pc = .ok (.putfield idx, 3)) (kk : G p l e R s m args below meth c D nL A Q ws' lv cells slots g (pc + 3) st) : G p l e R s m args below meth c D nL A Q ws lv cells slots g pc (v :: .ref a :: st) := by
  subst hw
  intro H locs hP hD hS hZ ls hl
  exact va_put C.1 C.2.1 C.2.2.2.2.1 hin ty0 hty hnm C.2.2.2.1 C.2.2.2.2.2.1 hP hD (S_rf hS) q0 he hc kf hk (C.2.2.2.2.1 _ hlink) (fun x h => by rw [← hsame]; exact h) hfin hd hnr hfit hl0 hdg (fun H1 locs1 hP1 hD1 hS1 => kk H1 locs1 hP1 hD1 (S_tr hS hS1) (Nat.le_trans hZ hS1.1) ls hl)
theorem g_putF (C : Cx p s m args c D k A cc own nL) {ref Cn : String} {T : u_T} {N ci idx a : Nat} {fs : List Value} (hin : ∀ w ∈ u_ws Cn T N, w ∈ WG) (q0 : Nat) (he : ws[q0]? = some (a, .inr (ci, fs))) (hc : vwCl[ci]? = some (Cn, T, N)) (kf : Nat) (hk : kf < N) (hlink : Cond.fieldLink own idx ref (T kf).2.1 (T kf).2.2.1 ∈ WG) (hsame : (T kf).1 = ref) (ty0 : Nat → FieldType) (hty : ∀ i, i < N → parseFieldDescriptor (T i).2.2.1 = some (ty0 i)) (hnm : ∀ a, a < N → ∀ b, b < N → a ≠ b → (T a).2.1 ≠ (T b).2.1) (hfin : (T kf).2.2.2 = true) (hin2 : meth.name = "<init>") (hdecl : (T kf).1 = own) {ty : FieldType} {v : Value} (ws' : va_W) (hd : parseFieldDescriptor (T kf).2.2.1 = some ty) (hnr : narrow ty v = v) (hfit : fits ty v = true) (hl0 : kf < fs.length) (hw : ws.set q0 (a, .inr (ci, fs.set kf v)) = ws') (hdg : decode cc pc = .ok (.putfield idx, 3)) (kk : G p l e R s m args below meth c D nL A Q ws' lv cells slots g (pc + 3) st) : G p l e R s m args below meth c D nL A Q ws lv cells slots g pc (v :: .ref a :: st) := by
  subst hw
  intro H locs hP hD hS hZ ls hl
  exact va_putF C.1 C.2.1 C.2.2.2.2.1 hin ty0 hty hnm C.2.2.2.1 C.2.2.2.2.2.1 hP hD (S_rf hS) q0 he hc kf hk (C.2.2.2.2.1 _ hlink) (fun x h => by rw [← hsame]; exact h) hfin hin2 hdecl hd hnr hfit hl0 hdg (fun H1 locs1 hP1 hD1 hS1 => kk H1 locs1 hP1 hD1 (S_tr hS hS1) (Nat.le_trans hZ hS1.1) ls hl)
theorem g_putN (C : Cx p s m args c D k A cc own nL) {ref Cn host : String} {T : u_T} {N ci idx a : Nat} {fs : List Value} (hin : ∀ w ∈ u_ws Cn T N, w ∈ WG) (q0 : Nat) (he : ws[q0]? = some (a, .inr (ci, fs))) (hc : vwCl[ci]? = some (Cn, T, N)) (kf : Nat) (hk : kf < N) (hlink : Cond.fieldLinkNest own idx ref (T kf).2.1 (T kf).2.2.1 host ∈ WG) (hsame : (T kf).1 = ref) (ty0 : Nat → FieldType) (hty : ∀ i, i < N → parseFieldDescriptor (T i).2.2.1 = some (ty0 i)) (hnm : ∀ a, a < N → ∀ b, b < N → a ≠ b → (T a).2.1 ≠ (T b).2.1) (hfin : (T kf).2.2.2 = false) {ty : FieldType} {v : Value} (ws' : va_W) (hd : parseFieldDescriptor (T kf).2.2.1 = some ty) (hnr : narrow ty v = v) (hfit : fits ty v = true) (hl0 : kf < fs.length) (hw : ws.set q0 (a, .inr (ci, fs.set kf v)) = ws') (hdg : decode cc pc = .ok (.putfield idx, 3)) (kk : G p l e R s m args below meth c D nL A Q ws' lv cells slots g (pc + 3) st) : G p l e R s m args below meth c D nL A Q ws lv cells slots g pc (v :: .ref a :: st) := by
  subst hw
  intro H locs hP hD hS hZ ls hl
  exact va_putN C.1 C.2.1 C.2.2.2.2.1 hin ty0 hty hnm C.2.2.2.1 C.2.2.2.2.2.1 hP hD (S_rf hS) q0 he hc kf hk (C.2.2.2.2.1 _ hlink) (fun x h => by rw [← hsame]; exact h) hfin hd hnr hfit hl0 hdg (fun H1 locs1 hP1 hD1 hS1 => kk H1 locs1 hP1 hD1 (S_tr hS hS1) (Nat.le_trans hZ hS1.1) ls hl)
theorem g_iald (C : Cx p s m args c D k A cc own nL) {a n : Nat} {f : Nat → Int32} (q0 : Nat) (ha : ws[q0]? = some (a, aI k n f)) {i : Int32} (hi : vp_in i n) (hdg : decode cc pc = .ok (.iaload, 1)) (kk : G p l e R s m args below meth c D nL A Q ws lv cells slots g (pc + 1) (.int (f i.toNatClampNeg) :: st)) : G p l e R s m args below meth c D nL A Q ws lv cells slots g pc (.int i :: .ref a :: st) := fun H locs hP hD hS hZ ls hl => va_iald C.1 C.2.1 C.2.2.2.2.2.1 hP q0 0 ha rfl hi hdg (kk H locs hP hD hS hZ ls hl)
theorem g_iast (C : Cx p s m args c D k A cc own nL) {a n : Nat} {f : Nat → Int32} (q0 : Nat) (ws' : va_W) (ha : ws[q0]? = some (a, aI k n f)) {i x : Int32} (hi : vp_in i n) (hw : ws.set q0 (a, aI k n (upd f i.toNatClampNeg x)) = ws') (hdg : decode cc pc = .ok (.iastore, 1)) (kk : G p l e R s m args below meth c D nL A Q ws' lv cells slots g (pc + 1) st) : G p l e R s m args below meth c D nL A Q ws lv cells slots g pc (.int x :: .int i :: .ref a :: st) := by
  subst hw
  intro H locs hP hD hS hZ ls hl
  exact va_iast C.1 C.2.1 C.2.2.2.2.2.1 hP hD (S_rf hS) q0 0 ha rfl hi hdg (fun H1 locs1 hP1 hD1 hS1 => kk H1 locs1 hP1 hD1 (S_tr hS hS1) (Nat.le_trans hZ hS1.1) ls hl)
theorem g_alen (C : Cx p s m args c D k A cc own nL) {a t0 : Nat} {cA : ClassId} {x : vp_A} {ty : FieldType} (q0 : Nat) (ha : ws[q0]? = some (a, .inl (cA, x))) (ht : (tyG k)[t0]? = some (cA, ty)) {v : Int32} (hv : Int32.ofNat x.1 = v) (hdg : decode cc pc = .ok (.arraylength, 1)) (kk : G p l e R s m args below meth c D nL A Q ws lv cells slots g (pc + 1) (.int v :: st)) : G p l e R s m args below meth c D nL A Q ws lv cells slots g pc (.ref a :: st) := fun H locs hP hD hS hZ ls hl => va_alen C.1 C.2.1 C.2.2.2.2.2.1 hP q0 t0 ha ht hv hdg (kk H locs hP hD hS hZ ls hl)
theorem g_new (C : Cx p s m args c D k A cc own nL) {Cn : String} {T : u_T} {N ci idx : Nat} (fs : List Value) (hin : ∀ w ∈ u_ws Cn T N, w ∈ WG) (ty0 : Nat → FieldType) (hty : ∀ i, i < N → parseFieldDescriptor (T i).2.2.1 = some (ty0 i)) (hlink : Cond.classLink own idx Cn ∈ WG) (hins : Cond.instantiable Cn N ∈ WG) (hini : Cond.initialized Cn ∈ WG) (hc : vwCl[ci]? = some (Cn, T, N)) (hfs : ∀ j, j < N → defaultValue (ty0 j) = vp_V fs j) (hcells : cells + 1 ≤ R.cells) (hslots : slots + N ≤ R.slots) (hdg : decode cc pc = .ok (.new idx, 3))
    (kk : ∀ q : Nat, G p l e R s m args below meth c D nL A Q (ws ++ [(q, .inr (ci, fs))]) lv (cells + 1) (slots + N) (g + 1) (pc + 3) (.ref q :: st)) : G p l e R s m args below meth c D nL A Q ws lv cells slots g pc st := by
  intro H locs hP hD hS hZ ls hl
  have hTs := C.2.2.2.2.1
  have hKn := C.2.2.2.2.2.1.1 ci _ hc
  refine W.newcK C.1 C.2.1 C.2.2.2.1 (hTs _ hlink) (hTs _ hins) (hTs _ hini) rfl hdg hcells hslots hKn.2.1 rfl fun H1 kC hkC e1 z1 o1 => ?_
  have hk : ∀ (i : Nat) (x : Nat × va_E), ws[i]? = some x → H1[x.1]? = H[x.1]? := fun i x hx => o1 x.1 ((hP i x hx).lt)
  refine kk H.size H1 locs ((hP.kept hk).app (fun i x hx => ?_)) (hD.push hP rfl (C.2.2.2.2.2.2.1 _ hS.1)) ⟨Nat.le_trans hS.1 (by omega), fun x h1 h2 => (o1 x (Nat.lt_of_lt_of_le h1 hS.1)).trans (hS.2.1 x h1 h2), hS.2.2⟩ (by omega) ls hl
  have hz : i < 1 := (List.getElem?_eq_some_iff.mp hx).1
  rw [show i = 0 by omega] at hx
  cases hx
  exact ⟨_, hc, (u_born ty0 hTs hin hKn hkC e1 hty).to hfs⟩
theorem g_newa (C : Cx p s m args c D k A cc own nL) {atype : ArrayType} (t0 : Nat) {cA : ClassId} {a0 : vp_A} (ht : (tyG k)[t0]? = some (cA, newarray.typeOf atype)) (hra : va_RA s cA (newarray.typeOf atype) = (s.vm.findClass ("[" ++ (newarray.typeOf atype).toString) = some cA)) (harr : Cond.arrayClass (newarray.typeOf atype) ∈ WG) {n : Int32} {N : Nat} (ha : vp_cell cA a0 = arrV cA N (fun _ => defaultValue (newarray.typeOf atype))) (hn : ¬ n < 0) (hN : n.toNatClampNeg = N) (hby : N * componentBytes (newarray.typeOf atype) ≤ 536870912) (hcells : cells + 1 ≤ R.cells) (hslots : slots + N ≤ R.slots) (hdg : decode cc pc = .ok (.newarray atype, 2))
    (kk : ∀ q : Nat, G p l e R s m args below meth c D nL A Q (ws ++ [(q, .inl (cA, a0))]) lv (cells + 1) (slots + N) (g + 1) (pc + 2) (.ref q :: st)) : G p l e R s m args below meth c D nL A Q ws lv cells slots g pc (.int n :: st) := by
  intro H locs hP hD hS hZ ls hl
  have hTs := C.2.2.2.2.1
  refine va_newaK C.1 C.2.1 (hTs _ harr) rfl hdg rfl hn hN hby hcells hslots rfl fun H1 cB e1 z1 o1 hAr hNm => ?_
  have h1 := (C.2.2.2.2.2.1.2 t0 _ ht).2
  rw [hra] at h1
  have hcc : cB = cA := Option.some.inj (hNm.symm.trans h1)
  subst hcc
  have hk : ∀ (i : Nat) (x : Nat × va_E), ws[i]? = some x → H1[x.1]? = H[x.1]? := fun i x hx => o1 x.1 ((hP i x hx).lt)
  refine kk H.size H1 locs ((hP.kept hk).app (fun i x hx => ?_)) (hD.push hP rfl (C.2.2.2.2.2.2.1 _ hS.1)) ⟨Nat.le_trans hS.1 (by omega), fun x h1 h2 => (o1 x (Nat.lt_of_lt_of_le h1 hS.1)).trans (hS.2.1 x h1 h2), hS.2.2⟩ (by omega) ls hl
  have hz : i < 1 := (List.getElem?_eq_some_iff.mp hx).1
  rw [show i = 0 by omega] at hx
  cases hx
  show H1[H.size]? = some (vp_cell _ _)
  rw [ha]
  exact e1
theorem g_newI (C : Cx p s m args c D k A cc own nL) (N : Nat) {n : Int32} (harr : Cond.arrayClass .int ∈ WG) (hn : ¬ n < 0) (hN : n.toNatClampNeg = N) (hN2 : N ≤ 67108864) (hcells : cells + 1 ≤ R.cells) (hslots : slots + N ≤ R.slots) (hdg : decode cc pc = .ok (.newarray .int, 2))
    (kk : ∀ q : Nat, G p l e R s m args below meth c D nL A Q (ws ++ [(q, .inl (k 0, N, .inl (fun _ => 0)))]) lv (cells + 1) (slots + N) (g + 1) (pc + 2) (.ref q :: st)) : G p l e R s m args below meth c D nL A Q ws lv cells slots g pc (.int n :: st) :=
  g_newa (atype := .int) C 0 rfl rfl harr (a0 := (N, .inl (fun _ => 0))) rfl hn hN (by simp only [newarray.typeOf, componentBytes]; omega) hcells hslots hdg kk
theorem g_newJ (C : Cx p s m args c D k A cc own nL) (N : Nat) {n : Int32} (harr : Cond.arrayClass .long ∈ WG) (hn : ¬ n < 0) (hN : n.toNatClampNeg = N) (hN2 : N ≤ 67108864) (hcells : cells + 1 ≤ R.cells) (hslots : slots + N ≤ R.slots) (hdg : decode cc pc = .ok (.newarray .long, 2))
    (kk : ∀ q : Nat, G p l e R s m args below meth c D nL A Q (ws ++ [(q, .inl (k 1, N, .inr (.inl (fun _ => 0))))]) lv (cells + 1) (slots + N) (g + 1) (pc + 2) (.ref q :: st)) : G p l e R s m args below meth c D nL A Q ws lv cells slots g pc (.int n :: st) :=
  g_newa (atype := .long) C 1 rfl rfl harr (a0 := (N, .inr (.inl (fun _ => 0)))) rfl hn hN (by simp only [newarray.typeOf, componentBytes]; omega) hcells hslots hdg kk
theorem g_newZ (C : Cx p s m args c D k A cc own nL) (N : Nat) {n : Int32} (harr : Cond.arrayClass .boolean ∈ WG) (hn : ¬ n < 0) (hN : n.toNatClampNeg = N) (hN2 : N ≤ 67108864) (hcells : cells + 1 ≤ R.cells) (hslots : slots + N ≤ R.slots) (hdg : decode cc pc = .ok (.newarray .boolean, 2))
    (kk : ∀ q : Nat, G p l e R s m args below meth c D nL A Q (ws ++ [(q, .inl (k 2, N, .inl (fun _ => 0)))]) lv (cells + 1) (slots + N) (g + 1) (pc + 2) (.ref q :: st)) : G p l e R s m args below meth c D nL A Q ws lv cells slots g pc (.int n :: st) :=
  g_newa (atype := .boolean) C 2 rfl rfl harr (a0 := (N, .inl (fun _ => 0))) rfl hn hN (by simp only [newarray.typeOf, componentBytes]; omega) hcells hslots hdg kk
theorem g_obj (C : Cx p s m args c D k A cc own nL) {idx a : Nat} (hlink : Cond.methodLink own idx Lib.objectInit ∈ WG) (hinst : Cond.instanceMethod Lib.objectInit ∈ WG) (hcode : Cond.code Lib.objectInit ⟨#[0xb1]⟩ 1 none ∈ WG) (hfr : 1 ≤ R.frames) (hlo : (st.map fun v => v.category).sum + 12 ≤ R.locals) (hdg : decode cc pc = .ok (.invokespecial idx, 3)) (kk : G p l e R s m args below meth c D nL A Q ws lv cells slots g (pc + 3) st) : G p l e R s m args below meth c D nL A Q ws lv cells slots g pc (.ref a :: st) := by
  intro H locs hP hD hS hZ ls hl
  have hTs := C.2.2.2.2.1
  exact W.objInit C.1 C.2.1 C.2.2.2.1 (hTs _ hlink) (hTs _ hinst) (hTs _ hcode) rfl (by rw [C.2.2.1]; exact hl.1) rfl hdg hfr (by have h0 : (F0 m pc ls (.ref a :: st)).monitorRoom = 0 := rfl; omega) (kk H locs hP hD hS hZ ls hl)
theorem G.aft {ws' : va_W} {st' : List Value} {cells' slots' g' : Nat} (ps : List Nat) (hn : va_nd ps = true) (hs : ps.map (fun i => ws[i]?) = ws'.map some) (h1 : st = st') (h2 : cells = cells') (h3 : slots = slots') (h4 : g = g') (kk : G p l e R s m args below meth c D nL A Q ws' lv cells' slots' g' pc st') : G p l e R s m args below meth c D nL A Q ws lv cells slots g pc st := by
  subst h1 h2 h3 h4
  exact G.re ps hn hs kk
theorem vp_in_c {i : Int32} {n : Nat} (h1 : ¬ i < 0) (h2 : ¬ nI n ≤ i) (hn : n < 2 ^ 31) : vp_in i n := by
  rcases pk_ix i hn with h | h | ⟨j, hj, rfl⟩
  · exact absurd h h1
  · exact absurd h h2
  · exact vp_in_nI hj hn
theorem arrV_c (cI : ClassId) (N : Nat) {f f2 : Nat → Value} (h : ∀ j, j < N → f j = f2 j) : arrV cI N f = arrV cI N f2 := by
  unfold arrV
  congr 1
  apply Array.ext
  · simp
  · intro i h1 h2
    simp at h1
    simp [h i h1]
theorem G.cell {a : Nat} {cA : ClassId} {x x' : vp_A} (q0 : Nat) (ws' : va_W) (he : ws[q0]? = some (a, .inl (cA, x))) (hx : vp_cell cA x = vp_cell cA x') (hw : ws.set q0 (a, .inl (cA, x')) = ws') (kk : G p l e R s m args below meth c D nL A Q ws' lv cells slots g pc st) : G p l e R s m args below meth c D nL A Q ws lv cells slots g pc st := by
  subst hw
  intro H locs hP hD hS hZ ls hl
  have h0 : H[a]? = some (vp_cell cA x) := hP q0 _ he
  exact kk H locs (hP.set hD he (show H[a]? = some (vp_cell cA x') by rw [← hx]; exact h0) (fun q _ => rfl)) (hD.set he) hS hZ ls hl
theorem G.fn {a n : Nat} {cA : ClassId} {f : Nat → Int32} (f' : Nat → Int32) (q0 : Nat) (ws' : va_W) (he : ws[q0]? = some (a, .inl (cA, n, .inl f))) (hx : ∀ j, j < n → f j = f' j) (hw : ws.set q0 (a, .inl (cA, n, .inl f')) = ws') (kk : G p l e R s m args below meth c D nL A Q ws' lv cells slots g pc st) : G p l e R s m args below meth c D nL A Q ws lv cells slots g pc st :=
  G.cell (x' := (n, .inl f')) q0 ws' he (arrV_c cA n (fun j hj => congrArg Value.int (hx j hj))) hw kk
theorem G.fnJ {a n : Nat} {cA : ClassId} {f : Nat → Int64} (f' : Nat → Int64) (q0 : Nat) (ws' : va_W) (he : ws[q0]? = some (a, .inl (cA, n, .inr (.inl f)))) (hx : ∀ j, j < n → f j = f' j) (hw : ws.set q0 (a, .inl (cA, n, .inr (.inl f'))) = ws') (kk : G p l e R s m args below meth c D nL A Q ws' lv cells slots g pc st) : G p l e R s m args below meth c D nL A Q ws lv cells slots g pc st :=
  G.cell (x' := (n, .inr (.inl f'))) q0 ws' he (arrV_c cA n (fun j hj => congrArg Value.long (hx j hj))) hw kk
/-- a truth as the machine has it -/
def bI (b : Bool) : Int32 := if b then 1 else 0
theorem bI_nar (b : Bool) : narrow .boolean (.int (bI b)) = .int (bI b) := by cases b <;> rfl
theorem bI_t : bI true = 1 := rfl
theorem bI_f : bI false = 0 := rfl
theorem bI_0 (b : Bool) : bI b = 0 ↔ b = false := by cases b <;> decide
theorem bI_1 (b : Bool) : bI b = 1 ↔ b = true := by cases b <;> decide
theorem g_iald_n (C : Cx p s m args c D k A cc own nL) {a n j : Nat} {f : Nat → Int32} (q0 : Nat) {i : Int32} (ha : ws[q0]? = some (a, aI k n f)) (hj : j < n) (hn : n < 2 ^ 31) (hi : i = nI j) (hdg : decode cc pc = .ok (.iaload, 1)) (kk : G p l e R s m args below meth c D nL A Q ws lv cells slots g (pc + 1) (.int (f j) :: st)) : G p l e R s m args below meth c D nL A Q ws lv cells slots g pc (.int i :: .ref a :: st) := by
  subst hi
  refine g_iald C q0 ha (vp_in_nI hj hn) hdg ?_
  rw [nI_clamp (by omega)]
  exact kk
theorem g_iast_n (C : Cx p s m args c D k A cc own nL) {a n j : Nat} {f : Nat → Int32} (q0 : Nat) (ws' : va_W) {i x : Int32} (ha : ws[q0]? = some (a, aI k n f)) (hj : j < n) (hn : n < 2 ^ 31) (hi : i = nI j) (hw : ws.set q0 (a, aI k n (upd f j x)) = ws') (hdg : decode cc pc = .ok (.iastore, 1)) (kk : G p l e R s m args below meth c D nL A Q ws' lv cells slots g (pc + 1) st) : G p l e R s m args below meth c D nL A Q ws lv cells slots g pc (.int x :: .int i :: .ref a :: st) := by
  subst hi
  have hcl : (nI j).toNatClampNeg = j := nI_clamp (by omega)
  exact g_iast C q0 ws' ha (vp_in_nI hj hn) (by rw [hcl]; exact hw) hdg kk
end GG
section GR
variable {p : Program} {l : Launch} {e : Env} {R : Room} {s : State} {m : MethodId} {args : Array Value} {below : List Frame} {meth : Method} {c : Code} {D : va_G} {k : Nat → ClassId} {cc : ByteArray} {own : String} {nL : Nat} {w0 ws : va_W} {post : Option Value → va_W → Prop} {mc ms gr : Nat} {lv : List (Nat × Value)} {cells slots g pc : Nat}
theorem g_iret (C : Cx p s m args c D k (va_A w0 s.heap.size) cc own nL) {v : Int32} (hr : meth.sig.returnType = some .int) (hlk : meth.locks = false) (hc : cells ≤ mc) (hs : slots ≤ ms) (hg : gr ≤ g) (hdg : decode cc pc = .ok (.ireturn, 1)) (hq : post (some (.int v)) ws) : G p l e R s m args below meth c D nL (va_A w0 s.heap.size) (QM below D args s w0 post mc ms gr) ws lv cells slots g pc [.int v] := by
  intro H locs hP hD hS hZ ls hl
  refine W.widen hc hs ?_
  exact W.iret C.1 C.2.1 hr (fun t ht hW => ⟨⟨_, ws, rfl, hq, by rw [ht]; exact hP, hD, by rw [ht]; exact Nat.le_trans (Nat.add_le_add_left hg _) hZ⟩, hS.F ht⟩) hS.2.2 hdg hlk
theorem g_zret (C : Cx p s m args c D k (va_A w0 s.heap.size) cc own nL) {v : Int32} (hr : meth.sig.returnType = some .boolean) (hn : narrow .boolean (.int v) = .int v) (hlk : meth.locks = false) (hc : cells ≤ mc) (hs : slots ≤ ms) (hg : gr ≤ g) (hdg : decode cc pc = .ok (.ireturn, 1)) (hq : post (some (.int v)) ws) : G p l e R s m args below meth c D nL (va_A w0 s.heap.size) (QM below D args s w0 post mc ms gr) ws lv cells slots g pc [.int v] := by
  intro H locs hP hD hS hZ ls hl
  refine W.widen hc hs ?_
  exact W.zret C.1 C.2.1 hr hn (fun t ht hW => ⟨⟨_, ws, rfl, hq, by rw [ht]; exact hP, hD, by rw [ht]; exact Nat.le_trans (Nat.add_le_add_left hg _) hZ⟩, hS.F ht⟩) hS.2.2 hdg hlk
theorem g_lret (C : Cx p s m args c D k (va_A w0 s.heap.size) cc own nL) {v : Int64} (hr : meth.sig.returnType = some .long) (hlk : meth.locks = false) (hc : cells ≤ mc) (hs : slots ≤ ms) (hg : gr ≤ g) (hdg : decode cc pc = .ok (.lreturn, 1)) (hq : post (some (.long v)) ws) : G p l e R s m args below meth c D nL (va_A w0 s.heap.size) (QM below D args s w0 post mc ms gr) ws lv cells slots g pc [.long v] := by
  intro H locs hP hD hS hZ ls hl
  refine W.widen hc hs ?_
  exact W.lret C.1 C.2.1 hr (fun t ht hW => ⟨⟨_, ws, rfl, hq, by rw [ht]; exact hP, hD, by rw [ht]; exact Nat.le_trans (Nat.add_le_add_left hg _) hZ⟩, hS.F ht⟩) hS.2.2 hdg hlk
theorem g_vret (C : Cx p s m args c D k (va_A w0 s.heap.size) cc own nL)  (hr : meth.sig.returnType = none) (hlk : meth.locks = false) (hc : cells ≤ mc) (hs : slots ≤ ms) (hg : gr ≤ g) (hdg : decode cc pc = .ok (.return_, 1)) (hq : post (none) ws) : G p l e R s m args below meth c D nL (va_A w0 s.heap.size) (QM below D args s w0 post mc ms gr) ws lv cells slots g pc [] := by
  intro H locs hP hD hS hZ ls hl
  refine W.widen hc hs ?_
  exact W.vret C.1 C.2.1 hr (fun t ht hW => ⟨⟨_, ws, rfl, hq, by rw [ht]; exact hP, hD, by rw [ht]; exact Nat.le_trans (Nat.add_le_add_left hg _) hZ⟩, hS.F ht⟩) hS.2.2 hdg hlk
theorem g_aret (C : Cx p s m args c D k (va_A w0 s.heap.size) cc own nL) {v : Nat} {rt : FieldType} (hr : meth.sig.returnType = some rt) (hrt : (∃ n, rt = .object n) ∨ ∃ t, rt = .array t) (hlk : meth.locks = false) (hc : cells ≤ mc) (hs : slots ≤ ms) (hg : gr ≤ g) (hdg : decode cc pc = .ok (.areturn, 1)) (hq : post (some (.ref v)) ws) : G p l e R s m args below meth c D nL (va_A w0 s.heap.size) (QM below D args s w0 post mc ms gr) ws lv cells slots g pc [.ref v] := by
  intro H locs hP hD hS hZ ls hl
  refine W.widen hc hs ?_
  exact W.aret C.1 C.2.1 hr hrt (Or.inr ⟨_, rfl⟩) (fun t ht hW => ⟨⟨_, ws, rfl, hq, by rw [ht]; exact hP, hD, by rw [ht]; exact Nat.le_trans (Nat.add_le_add_left hg _) hZ⟩, hS.F ht⟩) hS.2.2 hdg hlk
end GR
section GC
variable {p : Program} {l : Launch} {e : Env} {R : Room} {s : State} {m : MethodId} {args : Array Value} {below : List Frame} {meth : Method} {c : Code} {D : va_G} {k : Nat → ClassId} {A : Nat → Prop} {cc : ByteArray} {own : String} {nL : Nat} {Q : State → Prop} {ws : va_W} {lv : List (Nat × Value)} {cells slots g pc : Nat} {st : List Value}
theorem sub_of {ws w0 : va_W} {is : List Nat} (h : is.map (fun i => ws[i]?) = w0.map some) : is.filterMap (fun i => ws[i]?) = w0 := by
  have h1 : is.filterMap (fun i => ws[i]?) = (is.map (fun i => ws[i]?)).filterMap id := by rw [List.filterMap_map]; rfl
  rw [h1, h, List.filterMap_map]
  have h2 : (id ∘ some : Nat × va_E → Option (Nat × va_E)) = some := rfl
  rw [h2, List.filterMap_some]
theorem g_done (C : Cx p s m args c D k A cc own nL) {H : Heap} {locs : List Loc} {ls : Array Slot} {mc ms gr : Nat} {w0 wr : va_W} {post : Option Value → va_W → Prop} {g0 : JFrame} {pc0 : Nat} (isC isR : List Nat) (hC : isC.map (fun i => ws[i]?) = w0.map some) (hRr : isR.map (fun i => ws[i]?) = wr.map some) (hn : va_nd isR = true) (hnc : va_nd isC = true) (hdis : ∀ i ∈ isR, i ∉ isC) (hP : va_P D vwCl ws H) (hD : va_D A ws) (hS : va_S A s.heap H locs) (hZ : s.heap.size + g ≤ H.size) (hl : lv_has ls nL lv) (hFc : ∀ q, va_A w0 H.size q → A q)
    (hr : va_Run p l e R s m args below meth c H locs cells slots mc ms g0 st (fun st0 o t => (∃ (rv : Option Value) (w1 : va_W), o = .returned rv ∧ post rv w1 ∧ va_P D vwCl w1 t.heap ∧ va_D (va_A w0 H.size) w1 ∧ H.size + gr ≤ t.heap.size) ∧ va_F (va_A w0 H.size) st0 t) (va_A w0 H.size)) (hg0 : ∀ rv : Option Value, ({ g0 with pc := g0.pc + 3, stack := rv.toList ++ st } : JFrame) = F0 m (pc0 + 3) ls (rv.toList ++ st))
    (kk : ∀ (rv : Option Value) (w1 : va_W), post rv w1 → G p l e R s m args below meth c D nL A Q (wr ++ w1) lv (cells + mc) (slots + ms) (g + gr) (pc0 + 3) (rv.toList ++ st)) : W p l e R s m args below meth c H locs cells slots Q g0 := by
  intro T hT X
  obtain ⟨v, st0, t, T', L, e0, X', hL, e1, e2, ⟨⟨rv, w1, h1, h2, h3, h4, h5⟩, h6⟩, go⟩ := hr T hT X
  cases h1
  have hk1 : ∀ q : Nat, q < H.size → ¬ va_A w0 H.size q → t.heap[q]? = H[q]? := fun q hq hn => by rw [← e0]; exact h6.2 q (by rw [e0]; exact hq) hn
  obtain ⟨hP1, hD1⟩ := va_join (wr := wr) (w1 := w1) hP hD isC isR hC hRr hn hdis hk1 hFc h3 h4
  have hz : H.size ≤ t.heap.size := by omega
  obtain ⟨t2, a1, b1⟩ := kk v w1 h2 t.heap (locs ++ L) hP1 hD1 ⟨Nat.le_trans hS.1 hz, fun q hq hn9 => (hk1 q (Nat.lt_of_lt_of_le hq hS.1) (fun z => hn9 (hFc q z))).trans (hS.2.1 q hq hn9), fun x hx => (List.mem_append.mp hx).elim (hS.2.2 x) (fun h => hFc _ (hL x h))⟩ (by omega) ls hl T' e1 X'
  refine ⟨t2, go t2 ?_, b1⟩
  rw [hg0]
  exact a1
theorem g_callV (C : Cx p s m args c D k A cc own nL) {y : MethodName} {cy : ByteArray} {ny idx : Nat} {ret : Option FieldType} {fr lo b mc ms gr : Nat} {As : List Value} {w0 wr : va_W} {post : Option Value → va_W → Prop} {Cn : String} {T : u_T} {N ci q0 : Nat} {fs : List Value} {nA : Nat} (hAs : As.length = nA) (hM : CM l D k y cy ny ret fr lo (.ref b :: As) w0 post mc ms gr) (h1 : Cond.methodLink own idx y ∈ WG) (h2 : Cond.instanceMethod y ∈ WG) (h3 : Cond.selects Cn y y ∈ WG) (h4 : Cond.initialized Cn ∈ WG) (h5 : Cond.code y cy ny ret ∈ WG) (hd : y.cls = Cn ∧ y.cls ≠ "java/lang/invoke/MethodHandle" ∧ y.cls ≠ "java/lang/invoke/VarHandle" ∧ (parseMethodDescriptor y.desc).map (fun d => d.parameters.length) = some nA) (he : ws[q0]? = some (b, .inr (ci, fs))) (hc : vwCl[ci]? = some (Cn, T, N)) (hdg : decode cc pc = .ok (.invokevirtual idx, 3)) (hR : fr + 1 ≤ R.frames ∧ 8 + (ny + 11) + lo ≤ R.locals) (isC isR : List Nat) (hC : isC.map (fun i => ws[i]?) = w0.map some) (hRr : isR.map (fun i => ws[i]?) = wr.map some) (hn : va_nd isR = true) (hnc : va_nd isC = true) (hdis : ∀ i ∈ isR, i ∉ isC) (hcat : (st.map fun v => v.category).sum ≤ 8) (hf : cells + mc ≤ R.cells ∧ slots + ms ≤ R.slots) (kk : ∀ (rv : Option Value) (w1 : va_W), post rv w1 → G p l e R s m args below meth c D nL A Q (wr ++ w1) lv (cells + mc) (slots + ms) (g + gr) (pc + 3) (rv.toList ++ st)) : G p l e R s m args below meth c D nL A Q ws lv cells slots g pc (As.reverse ++ .ref b :: st) := by
  intro H locs hP hD hS hZ ls hl
  have hTs := C.2.2.2.2.1
  have hPc := hP.sub (ws' := w0) isC (sub_of hC)
  have hDc := hD.sub (ws' := w0) isC hnc hC
  have hFc := va_free (wc := w0) hD hS C.2.2.2.2.2.2.1 isC hC
  exact g_done C isC isR hC hRr hn hnc hdis hP hD hS hZ hl hFc (va_runV (As := As) (rest := st) ⟨C.1, C.2.1, C.2.2.1, C.2.2.2.1, hTs⟩ (hM H.size) (cwV nA hTs (wg_V h1 h2 h3 h4 h5) rfl rfl rfl hd hR) ⟨(fun a U g9 mk q => ⟨q.1, q.2.1, q.2.2.1, va_K.moved (u := U) (U := U.calling g9 mk a) (Vm.Alike.refl U.vm) q.2.2.2.1, q.2.2.2.2.1, NF.same (u := U) (U := U.calling g9 mk a) rfl q.2.2.2.2.2⟩), va_recv C.2.2.2.2.2.1 hP hc he, (fun U hU hW => ⟨rfl, by rw [hU], by rw [hU]; exact hPc, va_K.moved hW.alike C.2.2.2.2.2.1, hDc.weaken (fun _ _ _ _ => trivial), NF.warm hW C.2.2.2.2.2.2.2⟩)⟩ rfl hAs hl.1 rfl (lv_room hcat) hdg hf) (fun _ => rfl) kk
theorem g_callI (C : Cx p s m args c D k A cc own nL) {y : MethodName} {cy : ByteArray} {ny idx : Nat} {ret : Option FieldType} {fr lo b mc ms gr : Nat} {As : List Value} {w0 wr : va_W} {post : Option Value → va_W → Prop}  {nA : Nat} (hAs : As.length = nA) (hM : CM l D k y cy ny ret fr lo (.ref b :: As) w0 post mc ms gr) (h1 : Cond.methodLink own idx y ∈ WG) (h2 : Cond.instanceMethod y ∈ WG) (h4 : Cond.initialized y.cls ∈ WG) (h5 : Cond.code y cy ny ret ∈ WG) (hret : ret = none) (hyn : y.name = "<init>") (hd : y.cls ≠ "java/lang/invoke/MethodHandle" ∧ y.cls ≠ "java/lang/invoke/VarHandle" ∧ (parseMethodDescriptor y.desc).map (fun d => d.parameters.length) = some nA) (hdg : decode cc pc = .ok (.invokespecial idx, 3)) (hR : fr + 1 ≤ R.frames ∧ 8 + (ny + 11) + lo ≤ R.locals) (isC isR : List Nat) (hC : isC.map (fun i => ws[i]?) = w0.map some) (hRr : isR.map (fun i => ws[i]?) = wr.map some) (hn : va_nd isR = true) (hnc : va_nd isC = true) (hdis : ∀ i ∈ isR, i ∉ isC) (hcat : (st.map fun v => v.category).sum ≤ 8) (hf : cells + mc ≤ R.cells ∧ slots + ms ≤ R.slots) (kk : ∀ (rv : Option Value) (w1 : va_W), post rv w1 → G p l e R s m args below meth c D nL A Q (wr ++ w1) lv (cells + mc) (slots + ms) (g + gr) (pc + 3) (rv.toList ++ st)) : G p l e R s m args below meth c D nL A Q ws lv cells slots g pc (As.reverse ++ .ref b :: st) := by
  intro H locs hP hD hS hZ ls hl
  have hTs := C.2.2.2.2.1
  have hPc := hP.sub (ws' := w0) isC (sub_of hC)
  have hDc := hD.sub (ws' := w0) isC hnc hC
  have hFc := va_free (wc := w0) hD hS C.2.2.2.2.2.2.1 isC hC
  subst hret
  exact g_done C isC isR hC hRr hn hnc hdis hP hD hS hZ hl hFc (va_runI (As := As) (rest := st) ⟨C.1, C.2.1, C.2.2.1, C.2.2.2.1, hTs⟩ (hM H.size) (cwI nA hTs (wg_C h5) rfl rfl rfl (hTs _ h4) (hTs _ h1) (hTs _ h2) hyn hd hR) ⟨(fun a U g9 mk q => ⟨q.1, q.2.1, q.2.2.1, va_K.moved (u := U) (U := U.calling g9 mk a) (Vm.Alike.refl U.vm) q.2.2.2.1, q.2.2.2.2.1, NF.same (u := U) (U := U.calling g9 mk a) rfl q.2.2.2.2.2⟩), (fun U hU hW => ⟨rfl, by rw [hU], by rw [hU]; exact hPc, va_K.moved hW.alike C.2.2.2.2.2.1, hDc.weaken (fun _ _ _ _ => trivial), NF.warm hW C.2.2.2.2.2.2.2⟩)⟩ rfl hAs hl.1 rfl (lv_room hcat) hdg hf) (fun _ => rfl) kk
theorem g_callIN (C : Cx p s m args c D k A cc own nL) {y : MethodName} {cy : ByteArray} {ny idx : Nat} {ret : Option FieldType} {fr lo b mc ms gr : Nat} {As : List Value} {w0 wr : va_W} {post : Option Value → va_W → Prop} {host : String} {nA : Nat} (hAs : As.length = nA) (hM : CM l D k y cy ny ret fr lo (.ref b :: As) w0 post mc ms gr) (h1 : (own, idx, y, host) ∈ nestW) (h2 : Cond.instanceMethod y ∈ WG) (h4 : Cond.initialized y.cls ∈ WG) (h5 : Cond.code y cy ny ret ∈ WG) (hret : ret = none) (hyn : y.name = "<init>") (hd : y.cls ≠ "java/lang/invoke/MethodHandle" ∧ y.cls ≠ "java/lang/invoke/VarHandle" ∧ (parseMethodDescriptor y.desc).map (fun d => d.parameters.length) = some nA) (hdg : decode cc pc = .ok (.invokespecial idx, 3)) (hR : fr + 1 ≤ R.frames ∧ 8 + (ny + 11) + lo ≤ R.locals) (isC isR : List Nat) (hC : isC.map (fun i => ws[i]?) = w0.map some) (hRr : isR.map (fun i => ws[i]?) = wr.map some) (hn : va_nd isR = true) (hnc : va_nd isC = true) (hdis : ∀ i ∈ isR, i ∉ isC) (hcat : (st.map fun v => v.category).sum ≤ 8) (hf : cells + mc ≤ R.cells ∧ slots + ms ≤ R.slots) (kk : ∀ (rv : Option Value) (w1 : va_W), post rv w1 → G p l e R s m args below meth c D nL A Q (wr ++ w1) lv (cells + mc) (slots + ms) (g + gr) (pc + 3) (rv.toList ++ st)) : G p l e R s m args below meth c D nL A Q ws lv cells slots g pc (As.reverse ++ .ref b :: st) := by
  intro H locs hP hD hS hZ ls hl
  have hTs := C.2.2.2.2.1
  have hPc := hP.sub (ws' := w0) isC (sub_of hC)
  have hDc := hD.sub (ws' := w0) isC hnc hC
  have hFc := va_free (wc := w0) hD hS C.2.2.2.2.2.2.1 isC hC
  subst hret
  exact g_done C isC isR hC hRr hn hnc hdis hP hD hS hZ hl hFc (va_runIN (As := As) (rest := st) ⟨C.1, C.2.1, C.2.2.1, C.2.2.2.1, hTs⟩ (hM H.size) ⟨va_cnB nA hTs (wg_C h5) rfl rfl rfl (C.2.2.2.2.2.2.2.1 _ h1) (hTs _ h4) hd hR, hyn, hTs _ h2⟩ ⟨(fun a U g9 mk q => ⟨q.1, q.2.1, q.2.2.1, va_K.moved (u := U) (U := U.calling g9 mk a) (Vm.Alike.refl U.vm) q.2.2.2.1, q.2.2.2.2.1, NF.same (u := U) (U := U.calling g9 mk a) rfl q.2.2.2.2.2⟩), (fun U hU hW => ⟨rfl, by rw [hU], by rw [hU]; exact hPc, va_K.moved hW.alike C.2.2.2.2.2.1, hDc.weaken (fun _ _ _ _ => trivial), NF.warm hW C.2.2.2.2.2.2.2⟩)⟩ rfl hAs hl.1 rfl (lv_room hcat) hdg hf) (fun _ => rfl) kk
theorem g_callS (C : Cx p s m args c D k A cc own nL) {y : MethodName} {cy : ByteArray} {ny idx : Nat} {ret : Option FieldType} {fr lo b mc ms gr : Nat} {As : List Value} {w0 wr : va_W} {post : Option Value → va_W → Prop}  {nA : Nat} (hAs : As.length = nA) (hM : CM l D k y cy ny ret fr lo As w0 post mc ms gr) (h1 : Cond.methodLink own idx y ∈ WG) (h2 : Cond.static y ∈ WG) (h4 : Cond.initialized own ∈ WG) (h5 : Cond.code y cy ny ret ∈ WG) (hd : y.cls = own ∧ y.cls ≠ "java/lang/invoke/MethodHandle" ∧ y.cls ≠ "java/lang/invoke/VarHandle" ∧ (parseMethodDescriptor y.desc).map (fun d => d.parameters.length) = some nA) (hdg : decode cc pc = .ok (.invokestatic idx, 3)) (hR : fr + 1 ≤ R.frames ∧ 8 + (ny + 11) + lo ≤ R.locals) (isC isR : List Nat) (hC : isC.map (fun i => ws[i]?) = w0.map some) (hRr : isR.map (fun i => ws[i]?) = wr.map some) (hn : va_nd isR = true) (hnc : va_nd isC = true) (hdis : ∀ i ∈ isR, i ∉ isC) (hcat : (st.map fun v => v.category).sum ≤ 8) (hf : cells + mc ≤ R.cells ∧ slots + ms ≤ R.slots) (kk : ∀ (rv : Option Value) (w1 : va_W), post rv w1 → G p l e R s m args below meth c D nL A Q (wr ++ w1) lv (cells + mc) (slots + ms) (g + gr) (pc + 3) (rv.toList ++ st)) : G p l e R s m args below meth c D nL A Q ws lv cells slots g pc (As.reverse ++ st) := by
  intro H locs hP hD hS hZ ls hl
  have hTs := C.2.2.2.2.1
  have hPc := hP.sub (ws' := w0) isC (sub_of hC)
  have hDc := hD.sub (ws' := w0) isC hnc hC
  have hFc := va_free (wc := w0) hD hS C.2.2.2.2.2.2.1 isC hC
  exact g_done C isC isR hC hRr hn hnc hdis hP hD hS hZ hl hFc (va_runS (As := As) (rest := st) ⟨C.1, C.2.1, C.2.2.1, C.2.2.2.1, hTs⟩ (hM H.size) (cwS nA hTs (wg_S h1 h2 h4 h5) rfl rfl rfl hd hR) ⟨(fun a U g9 mk q => ⟨q.1, q.2.1, q.2.2.1, va_K.moved (u := U) (U := U.calling g9 mk a) (Vm.Alike.refl U.vm) q.2.2.2.1, q.2.2.2.2.1, NF.same (u := U) (U := U.calling g9 mk a) rfl q.2.2.2.2.2⟩), (fun U hU hW => ⟨rfl, by rw [hU], by rw [hU]; exact hPc, va_K.moved hW.alike C.2.2.2.2.2.1, hDc.weaken (fun _ _ _ _ => trivial), NF.warm hW C.2.2.2.2.2.2.2⟩)⟩ rfl hAs hl.1 rfl (lv_room hcat) hdg hf) (fun _ => rfl) kk
end GC
end
section
/-! ===== BEGIN new T[n][m]: the outer array a place, the inner ones among the pooled ===== -/
/-- f, but v at every address of l -/
def vr_up {α : Type} (f : Nat → α) (l : List Nat) (v : α) : Nat → α := fun a => if a ∈ l then v else f a
theorem vr_up_in {α : Type} {f : Nat → α} {l : List Nat} {v : α} {a : Nat} (h : a ∈ l) : vr_up f l v a = v := if_pos h
theorem vr_up_ne {α : Type} {f : Nat → α} {l : List Nat} {v : α} {a : Nat} (h : a ∉ l) : vr_up f l v a = f a := if_neg h
theorem vr_rows {L l : List Nat} {f : Nat → va_E} {e : va_E} (h : ∀ a, a ∈ l → a ∉ L) : va_pl L f ++ l.map (fun a => (a, e)) = va_pl (L ++ l) (vr_up f l e) := by
  unfold va_pl
  rw [List.map_append]
  congr 1
  · apply List.map_congr_left
    intro a ha
    rw [vr_up_ne (fun q => h a q ha)]
  · apply List.map_congr_left
    intro a ha
    rw [vr_up_in ha]
theorem vr_lay {X rows : va_W} {x : Nat × va_E} {pl : va_W} {D : va_G} {cl : List vw_C} {H : Heap} (hP : va_P D cl (((X ++ pl) ++ [x]) ++ rows) H) : va_P D cl ((X ++ [x]) ++ (pl ++ rows)) H := by
  rw [List.append_assoc (X ++ pl)] at hP
  have h := va_P.swap hP
  rw [← List.append_assoc X] at h
  have h2 := va_P.swap h
  rw [List.append_assoc (X ++ [x])] at h2
  exact h2
theorem vr_layD {X rows : va_W} {x : Nat × va_E} {pl : va_W} {A : Nat → Prop} (hD : va_D A (((X ++ pl) ++ [x]) ++ rows)) : va_D A ((X ++ [x]) ++ (pl ++ rows)) := by
  rw [List.append_assoc (X ++ pl)] at hD
  have h := va_D.swap hD
  rw [← List.append_assoc X] at h
  have h2 := va_D.swap h
  rw [List.append_assoc (X ++ [x])] at h2
  exact h2
theorem vr_outer (c : ClassId) (N h0 : Nat) : ∀ i : Nat, Jvm.Free.Multi.outerC c N h0 i = arrV c N (fun j => va_rf (if j < i then some (h0 + 1 + j) else none))
  | 0 => by
    show ({ cls := c, slots := Array.replicate N .null, vm := .none } : Cell) = _
    rw [arrV_new]
    refine congrArg (arrV c N) (funext fun j => ?_)
    simp [va_rf]
  | i + 1 => by
    show (Jvm.Free.Multi.outerC c N h0 i).setSlot i (.ref (h0 + 1 + i)) = _
    rw [vr_outer c N h0 i, arrV_store]
    refine congrArg (arrV c N) (funext fun j => ?_)
    by_cases e : j = i
    · subst e
      simp [updV, va_rf]
    · by_cases h : j < i
      · simp [updV, e, h, Nat.lt_succ_of_lt h]
      · simp [updV, e, h, show ¬ j < i + 1 by omega]
section VGM
variable {p : Program} {l : Launch} {e : Env} {R : Room} {s : State} {m : MethodId} {args : Array Value} {below : List Frame} {meth : Method} {c : Code} {H : Heap} {locs : List Loc} {cells slots : Nat} {Q : State → Prop}
variable {cc : ByteArray} {pc : Nat} {ls : Array Slot} {rest : List Value} {D : va_G} {cl : List vw_C} {A : Nat → Prop} {a : Nat} {tys : List (ClassId × FieldType)} {ws : va_W} {H0 : Heap}
theorem va_mna {X : va_W} {L : List Nat} {f : Nat → va_E} {cc : ByteArray} (hexec : p.tables.exec = Jvm.exec) (hb : c.code = cc) {own : String} {index : Nat} {ty : FieldType} {cy : ClassId} (hown : s.vm.findClass own = some m.cls) (hclink : (Cond.classLink own index ("[" ++ (FieldType.array ty).toString)).before args s = true) (hover : va_AOA ty s) (harr : (Cond.arrayClass ty).before args s = true) (hcy : s.vm.findClass (FieldType.array ty).toString = some cy)
    (hK : va_K D cl tys s) (hP : va_P D cl (X ++ va_pl L f) H) (hD : va_D A (X ++ va_pl L f)) (hS : va_S A H0 H locs) (hA : ∀ q, H0.size ≤ q → A q) {n k : Int32} {N' K' : Nat} {z : vp_A} (hn : ¬ n < 0) (hk : ¬ k < 0) (hN : n.toNatClampNeg = N') (hM : k.toNatClampNeg = K')
    (hb1 : N' * 4 ≤ 536870912) (hb2 : K' * componentBytes ty ≤ 536870912) (hb3 : K' ≤ 536870912) (hdf : fits ty (defaultValue ty) = true) (hdd : (defaultValue ty).isDefault = true) (hcells : cells + (1 + N') ≤ R.cells) (hslots : slots + (N' + N' * K') ≤ R.slots) (hz : ∀ c : ClassId, Jvm.Free.Multi.innerC c K' (defaultValue ty) = vp_cell c z) (hdg : decode cc pc = .ok (.multianewarray index 2, 4))
    (kk : ∀ (q : Nat) (r : Nat → Nat) (cA : ClassId) (H1 : Heap), (∀ i j : Nat, i < N' → j < N' → r i = r j → i = j) → (∀ i : Nat, i < N' → r i ∉ L) → va_K D cl (tys ++ [(cA, .array ty)]) s →
      va_P D cl ((X ++ [(q, .inl (cA, N', .inr (.inr (.inr (.inr (fun i => if i < N' then some (r i) else none))))))]) ++ va_pl (L ++ (List.range N').map r) (vr_up f ((List.range N').map r) (.inl (cy, z)))) H1 → va_D A ((X ++ [(q, .inl (cA, N', .inr (.inr (.inr (.inr (fun i => if i < N' then some (r i) else none))))))]) ++ va_pl (L ++ (List.range N').map r) (vr_up f ((List.range N').map r) (.inl (cy, z)))) → va_S A H0 H1 locs →
      W p l e R s m args below meth c H1 locs (cells + 1 + N') (slots + N' + N' * K') Q (F0 m (pc + 4) ls (.ref q :: rest))) : W p l e R s m args below meth c H locs cells slots Q (F0 m pc ls (.int k :: .int n :: rest)) := by
  subst hN
  subst hM
  intro T hT Xs
  obtain ⟨vm₁, cA, comp, -, fA, fC, hO, -, X', step⟩ := Xs.multianewarray2F hexec hown hclink (va_AOA.use hover) harr (g := F0 m pc ls (.int k :: .int n :: rest)) rfl (by rw [hb]; exact hdg) rfl hn hk hb1 hb2 hb3 hdf hdd hcells hslots
  have ec : some cy = some comp := hcy.symm.trans fC
  cases ec
  generalize hF : Jvm.Free.Multi.fill (T.setVm vm₁) cA cy n.toNatClampNeg k.toNatClampNeg (defaultValue ty) n.toNatClampNeg = F at X' step
  have hTh : (T.setVm vm₁).heap = H := hT
  obtain ⟨f1, f2, -, -⟩ := Jvm.Free.Multi.fill_facts (T.setVm vm₁) cA cy n.toNatClampNeg k.toNatClampNeg (defaultValue ty) n.toNatClampNeg
  rw [hF, hTh] at f1 f2
  have hold : ∀ x : Nat, x < H.size → F.heap[x]? = H[x]? := fun x hx => by
    have := Jvm.Free.Multi.fill_old (T.setVm vm₁) cA cy n.toNatClampNeg k.toNatClampNeg (defaultValue ty) (a := x) (by rw [hTh]; exact hx) n.toNatClampNeg
    rw [hF, hTh] at this
    exact this
  have hrow : ∀ j : Nat, j < n.toNatClampNeg → F.heap[H.size + 1 + j]? = some (vp_cell cy z) := fun j hj => by
    have := Jvm.Free.Multi.fill_inner (T.setVm vm₁) cA cy n.toNatClampNeg k.toNatClampNeg (defaultValue ty) n.toNatClampNeg j hj
    rw [hF, hTh, hz] at this
    exact this
  have hout : Jvm.Free.Multi.outerC cA n.toNatClampNeg H.size n.toNatClampNeg = vp_cell cA (n.toNatClampNeg, .inr (.inr (.inr (.inr (fun i => if i < n.toNatClampNeg then some (H.size + 1 + i) else none))))) := by
    rw [vp_cell_q]
    exact vr_outer cA n.toNatClampNeg H.size n.toNatClampNeg
  rw [hout] at f2
  have hlt : ∀ a, a ∈ L → a < H.size := fun a ha => by
    obtain ⟨k9, hk9⟩ := va_pl_get (X := X) (f := f) ha
    exact (hP k9 _ hk9).lt
  have hnl : ∀ i : Nat, i < n.toNatClampNeg → H.size + 1 + i ∉ L := fun i _ h => by
    have := hlt _ h
    omega
  have hnm : ∀ a, a ∈ (List.range n.toNatClampNeg).map (fun i => H.size + 1 + i) → a ∉ L := fun a ha h => by
    obtain ⟨i, -, rfl⟩ := List.mem_map.mp ha
    have := hlt _ h
    omega
  have hP0 : va_P D cl (X ++ va_pl L f) F.heap := hP.kept (fun k9 x hx => hold x.1 ((hP k9 x hx).lt))
  have hP1 : va_P D cl ((X ++ va_pl L f) ++ [(H.size, .inl (cA, n.toNatClampNeg, .inr (.inr (.inr (.inr (fun i => if i < n.toNatClampNeg then some (H.size + 1 + i) else none))))))]) F.heap := hP0.app (fun k9 x hx => by
    have h0 : k9 < 1 := (List.getElem?_eq_some_iff.mp hx).1
    rw [show k9 = 0 by omega] at hx
    cases hx
    exact f2)
  have hP2 : va_P D cl (((X ++ va_pl L f) ++ [(H.size, .inl (cA, n.toNatClampNeg, .inr (.inr (.inr (.inr (fun i => if i < n.toNatClampNeg then some (H.size + 1 + i) else none))))))]) ++ ((List.range n.toNatClampNeg).map (fun i => H.size + 1 + i)).map (fun a => (a, .inl (cy, z)))) F.heap := hP1.app (fun k9 x hx => by
    obtain ⟨a, ha, rfl⟩ := List.mem_map.mp (List.mem_of_getElem? hx)
    obtain ⟨i, hi, rfl⟩ := List.mem_map.mp ha
    exact hrow i (List.mem_range.mp hi))
  have hD2 : va_D A (((X ++ va_pl L f) ++ [(H.size, .inl (cA, n.toNatClampNeg, .inr (.inr (.inr (.inr (fun i => if i < n.toNatClampNeg then some (H.size + 1 + i) else none))))))]) ++ ((List.range n.toNatClampNeg).map (fun i => H.size + 1 + i)).map (fun a => (a, .inl (cy, z)))) := by
    have hD1 := hD.push (e := .inl (cA, n.toNatClampNeg, .inr (.inr (.inr (.inr (fun i => if i < n.toNatClampNeg then some (H.size + 1 + i) else none)))))) hP rfl (hA _ hS.1)
    generalize hW1 : (X ++ va_pl L f) ++ [(H.size, .inl (cA, n.toNatClampNeg, .inr (.inr (.inr (.inr (fun i => if i < n.toNatClampNeg then some (H.size + 1 + i) else none))))))] = W1 at hD1 hP1 ⊢
    have hle : ∀ (k9 : Nat) (x : Nat × va_E), W1[k9]? = some x → x.1 ≤ H.size := fun k9 x hx => by
      rw [← hW1] at hx
      by_cases hl : k9 < (X ++ va_pl L f).length
      · rw [List.getElem?_append_left hl] at hx
        exact Nat.le_of_lt ((hP k9 x hx).lt)
      · rw [List.getElem?_append_right (by omega)] at hx
        have h0 : k9 - (X ++ va_pl L f).length < 1 := (List.getElem?_eq_some_iff.mp hx).1
        rw [show k9 - (X ++ va_pl L f).length = 0 by omega] at hx
        cases hx
        exact Nat.le_refl _
    have hr : ∀ (k9 : Nat) (x : Nat × va_E), (((List.range n.toNatClampNeg).map (fun i => H.size + 1 + i)).map (fun a => ((a, .inl (cy, z)) : Nat × va_E)))[k9]? = some x → x.1 = H.size + 1 + k9 := fun k9 x hx => by
      rw [List.getElem?_map, List.getElem?_map] at hx
      by_cases h9 : k9 < n.toNatClampNeg
      · rw [List.getElem?_range h9] at hx
        cases hx
        rfl
      · have hn0 : (List.range n.toNatClampNeg)[k9]? = none := List.getElem?_eq_none (by rw [List.length_range]; omega)
        rw [hn0] at hx
        cases hx
    refine ⟨fun i j x y hi hj hxy => ?_, fun k9 x hx => ?_⟩
    · by_cases h1 : i < W1.length <;> by_cases h2 : j < W1.length
      · rw [List.getElem?_append_left h1] at hi
        rw [List.getElem?_append_left h2] at hj
        exact hD1.1 i j x y hi hj hxy
      · rw [List.getElem?_append_left h1] at hi
        rw [List.getElem?_append_right (by omega)] at hj
        have := hle _ _ hi
        have := hr _ _ hj
        omega
      · rw [List.getElem?_append_right (by omega)] at hi
        rw [List.getElem?_append_left h2] at hj
        have := hle _ _ hj
        have := hr _ _ hi
        omega
      · rw [List.getElem?_append_right (by omega)] at hi hj
        have := hr _ _ hi
        have := hr _ _ hj
        omega
    · by_cases h1 : k9 < W1.length
      · rw [List.getElem?_append_left h1] at hx
        exact hD1.2 k9 x hx
      · rw [List.getElem?_append_right (by omega)] at hx
        have := hr _ _ hx
        exact hA _ (by have := hS.1; omega)
  have hAr : ArrOfT s cA (.array ty) := fun N9 z9 => by
    obtain ⟨-, k9, hk9, cm9, hkk9⟩ := (hO 0 0 0).1
    exact ⟨(fun q hq => by cases hq), k9, hk9, cm9, hkk9⟩
  have hK2 : va_K D cl (tys ++ [(cA, .array ty)]) s := ⟨hK.1, fun k9 x hx => by
    by_cases hl : k9 < tys.length
    · rw [List.getElem?_append_left hl] at hx
      exact hK.2 k9 x hx
    · rw [List.getElem?_append_right (by omega)] at hx
      have h0 : k9 - tys.length < 1 := (List.getElem?_eq_some_iff.mp hx).1
      rw [show k9 - tys.length = 0 by omega] at hx
      cases hx
      exact ⟨hAr, fA⟩⟩
  obtain ⟨t, a1, b1⟩ := kk H.size (fun i => H.size + 1 + i) cA F.heap (fun i j _ _ h => by have h9 : H.size + 1 + i = H.size + 1 + j := h; omega) hnl hK2 (by rw [← vr_rows hnm]; exact vr_lay hP2) (by rw [← vr_rows hnm]; exact vr_layD hD2) ⟨by rw [f1]; have := hS.1; omega, fun x h1 h2 => (hold x (Nat.lt_of_lt_of_le h1 hS.1)).trans (hS.2.1 x h1 h2), hS.2.2⟩ F rfl X'
  refine ⟨t, step t ?_, b1⟩
  have e : T.heap.size = H.size := by rw [hT]
  rw [e]
  exact a1
end VGM
/-! ===== END ===== -/
section GZ
variable {p : Program} {l : Launch} {e : Env} {R : Room} {s : State} {m : MethodId} {args : Array Value} {below : List Frame} {meth : Method} {c : Code} {D : va_G} {k : Nat → ClassId} {A : Nat → Prop} {cc : ByteArray} {own : String} {nL : Nat} {Q : State → Prop} {ws : va_W} {lv : List (Nat × Value)} {cells slots g pc : Nat} {st : List Value}
theorem fc_I (C : Cx p s m args c D k A cc own nL) : s.vm.findClass "[I" = some (k 0) := by
  have h0 := (C.2.2.2.2.2.1.2 0 (k 0, .int) rfl).2
  exact h0
theorem fc_II (C : Cx p s m args c D k A cc own nL) : s.vm.findClass "[[I" = some (k 3) := by
  have h0 := (C.2.2.2.2.2.1.2 3 (k 3, .array .int) rfl).2
  exact h0
theorem g_aald (C : Cx p s m args c D k A cc own nL) {a n j b : Nat} {f : Nat → Option Nat} (q0 : Nat) {i : Int32} (ha : ws[q0]? = some (a, aR k 3 n f)) (hj : j < n) (hn : n < 2 ^ 31) (hi : i = nI j) (hf : f j = some b) (hdg : decode cc pc = .ok (.aaload, 1)) (kk : G p l e R s m args below meth c D nL A Q ws lv cells slots g (pc + 1) (.ref b :: st)) : G p l e R s m args below meth c D nL A Q ws lv cells slots g pc (.int i :: .ref a :: st) := by
  subst hi
  intro H locs hP hD hS hZ ls hl
  have hin := vp_in_nI hj hn
  have hcl : (nI j).toNatClampNeg = j := nI_clamp (by omega)
  refine W.aald (v := .ref b) (ty := .array .int) C.1 C.2.1 (hP q0 _ ha) ((C.2.2.2.2.2.1.2 3 (k 3, .array .int) rfl).1 n (fun j => va_rf (f j))) rfl (fun q => by cases q) (by show ¬ (nI j < 0 ∨ (arrV _ _ _).slots.size ≤ _); rw [arrV_size]; exact hin) (by show (arrV _ _ _).slots[_]? = _; rw [hcl, arrV_read _ _ hj, hf]; rfl) rfl rfl hdg (kk H locs hP hD hS hZ ls hl)
theorem g_zald_n (C : Cx p s m args c D k A cc own nL) {a n j : Nat} {f : Nat → Int32} (q0 : Nat) {i : Int32} (ha : ws[q0]? = some (a, aZ k n f)) (hj : j < n) (hn : n < 2 ^ 31) (hi : i = nI j) (hdg : decode cc pc = .ok (.baload, 1)) (kk : G p l e R s m args below meth c D nL A Q ws lv cells slots g (pc + 1) (.int (f j) :: st)) : G p l e R s m args below meth c D nL A Q ws lv cells slots g pc (.int i :: .ref a :: st) := by
  subst hi
  intro H locs hP hD hS hZ ls hl
  have h1 := kk H locs hP hD hS hZ ls hl
  refine va_zald C.1 C.2.1 C.2.2.2.2.2.1 hP q0 2 ha rfl (vp_in_nI hj hn) hdg ?_
  rw [nI_clamp (by omega)]
  exact h1
theorem g_zast_n (C : Cx p s m args c D k A cc own nL) {a n j : Nat} {f : Nat → Int32} (q0 : Nat) (ws' : va_W) {i x : Int32} (ha : ws[q0]? = some (a, aZ k n f)) (hj : j < n) (hn : n < 2 ^ 31) (hi : i = nI j) (hx : vp_nar .boolean x = x) (hw : ws.set q0 (a, aZ k n (upd f j x)) = ws') (hdg : decode cc pc = .ok (.bastore, 1)) (kk : G p l e R s m args below meth c D nL A Q ws' lv cells slots g (pc + 1) st) : G p l e R s m args below meth c D nL A Q ws lv cells slots g pc (.int x :: .int i :: .ref a :: st) := by
  subst hi
  subst hw
  have hcl : (nI j).toNatClampNeg = j := nI_clamp (by omega)
  intro H locs hP hD hS hZ ls hl
  refine va_zast C.1 C.2.1 C.2.2.2.2.2.1 hP hD (S_rf hS) q0 2 ha rfl (vp_in_nI hj hn) hdg (fun H1 locs1 hP1 hD1 hS1 => ?_)
  rw [hcl, hx] at hP1 hD1
  exact kk H1 locs1 hP1 hD1 (S_tr hS hS1) (Nat.le_trans hZ hS1.1) ls hl
theorem bI_vp (b : Bool) : vp_nar .boolean (bI b) = bI b := by cases b <;> rfl
theorem g_castI (C : Cx p s m args c D k A cc own nL) {a idx : Nat} {x : vp_A} (q0 : Nat) (ha : ws[q0]? = some (a, .inl (k 0, x))) (hlink : Cond.classLink own idx "[I" ∈ WG) (hdg : decode cc pc = .ok (.checkcast idx, 3)) (kk : G p l e R s m args below meth c D nL A Q ws lv cells slots g (pc + 3) (.ref a :: st)) : G p l e R s m args below meth c D nL A Q ws lv cells slots g pc (.ref a :: st) := fun H locs hP hD hS hZ ls hl => va_castA C.1 C.2.1 C.2.2.2.1 (C.2.2.2.2.1 _ hlink) hP q0 ha (fc_I C) hdg (kk H locs hP hD hS hZ ls hl)
theorem g_cloneI (C : Cx p s m args c D k A cc own nL) {a idx n : Nat} {f : Nat → Int32} (q0 : Nat) (ha : ws[q0]? = some (a, aI k n f)) (h1 : Cond.methodLink own idx ⟨"[I", "clone", "()Ljava/lang/Object;"⟩ ∈ WG) (h2 : Cond.sameMethod "[I" "java/lang/Object" "clone" "()Ljava/lang/Object;" ∈ WG) (h3 : Cond.native ⟨"java/lang/Object", "clone", "()Ljava/lang/Object;"⟩ ∈ WG) (h4 : Cond.instanceMethod ⟨"java/lang/Object", "clone", "()Ljava/lang/Object;"⟩ ∈ WG) (h5 : Cond.selects "[I" ⟨"[I", "clone", "()Ljava/lang/Object;"⟩ ⟨"java/lang/Object", "clone", "()Ljava/lang/Object;"⟩ ∈ WG) (h6 : Cond.castable "[I" "java/lang/Cloneable" ∈ WG) (hfr : 1 ≤ R.frames) (hlo : (st.map fun v => v.category).sum + 14 ≤ R.locals) (hcells : cells + 1 ≤ R.cells) (hslots : slots + n ≤ R.slots) (hdg : decode cc pc = .ok (.invokevirtual idx, 3))
    (kk : ∀ q : Nat, G p l e R s m args below meth c D nL A Q (ws ++ [(q, aI k n f)]) lv (cells + 1) (slots + n) g (pc + 3) (.ref q :: st)) : G p l e R s m args below meth c D nL A Q ws lv cells slots g pc (.ref a :: st) := by
  intro H locs hP hD hS hZ ls hl
  have hTs := C.2.2.2.2.1
  refine va_clone C.1 C.2.1 (by rw [C.2.2.1]; exact hl.1.symm) C.2.2.2.1 (hTs _ h1) (hTs _ h2) (hTs _ h3) (hTs _ h4) (hTs _ h5) (va_Nw.of rfl (hTs _ h6)) C.2.2.2.2.2.1 hP hD (S_rf hS) (fun q h => C.2.2.2.2.2.2.1 q (Nat.le_trans hS.1 h)) q0 0 ha rfl (fc_I C) (fun i v hv => ?_) hfr hlo hcells hslots hdg (fun q H1 hK1 hP1 hD1 hS1 => kk q H1 locs hP1 hD1 (S_tr hS hS1) (Nat.le_trans hZ hS1.1) ls hl)
  have hlt : i < n := by
    have h9 := (Array.getElem?_eq_some_iff.mp hv).1
    rw [show (vp_cell (k 0) (n, Sum.inl f)).slots.size = n from arrV_size _ _ _] at h9
    exact h9
  have h8 : (vp_cell (k 0) (n, Sum.inl f)).slots[i]? = some (.int (f i)) := arrV_read _ _ hlt
  rw [h8] at hv
  cases hv
  rfl
theorem g_mnaI (C : Cx p s m args c D k A cc own nL) {idx : Nat} (hlink : Cond.classLink own idx "[[I" ∈ WG) (harr : Cond.arrayClass .int ∈ WG) (hcells : cells + 7 ≤ R.cells) (hslots : slots + 42 ≤ R.slots) (hdg : decode cc pc = .ok (.multianewarray idx 2, 4))
    (kk : ∀ (q : Nat) (r : Nat → Nat), G p l e R s m args below meth c D nL A Q (ws ++ [(q, aR k 3 6 (fun i => if i < 6 then some (r i) else none)), (r 0, aI k 6 (fun _ => 0)), (r 1, aI k 6 (fun _ => 0)), (r 2, aI k 6 (fun _ => 0)), (r 3, aI k 6 (fun _ => 0)), (r 4, aI k 6 (fun _ => 0)), (r 5, aI k 6 (fun _ => 0))]) lv (cells + 7) (slots + 42) g (pc + 4) (.ref q :: st)) : G p l e R s m args below meth c D nL A Q ws lv cells slots g pc (.int 6 :: .int 6 :: st) := by
  intro H locs hP hD hS hZ ls hl
  have hTs := C.2.2.2.2.1
  refine va_mna (X := ws) (L := []) (f := fun _ => aI k 6 (fun _ => 0)) (cy := k 0) (ty := .int) (N' := 6) (K' := 6) (z := (6, .inl (fun _ => 0))) C.1 C.2.1 C.2.2.2.1 (hTs _ hlink) C.2.2.2.2.2.2.2.2.1 (hTs _ harr) (fc_I C) C.2.2.2.2.2.1 (by simpa [va_pl] using hP) (by simpa [va_pl] using hD) (S_rf hS) (fun q h => C.2.2.2.2.2.2.1 q (Nat.le_trans hS.1 h)) (by decide) (by decide) (by decide) (by decide) (by decide) (by decide) (by decide) rfl rfl (by omega) (by omega) (fun c9 => arrV_new c9 6 (.int 0)) hdg (fun q r cA H1 hr1 hr2 hK1 hP1 hD1 hS1 => ?_)
  have hcA : cA = k 3 := by
    have h1 := (hK1.2 6 (cA, .array .int) rfl).2
    exact Option.some.inj (h1.symm.trans (fc_II C))
  subst hcA
  have hrw : (ws ++ [(q, aR k 3 6 (fun i => if i < 6 then some (r i) else none))]) ++ va_pl ([] ++ (List.range 6).map r) (vr_up (fun _ => aI k 6 (fun _ => 0)) ((List.range 6).map r) (.inl (k 0, 6, .inl (fun _ => 0)))) = ws ++ [(q, aR k 3 6 (fun i => if i < 6 then some (r i) else none)), (r 0, aI k 6 (fun _ => 0)), (r 1, aI k 6 (fun _ => 0)), (r 2, aI k 6 (fun _ => 0)), (r 3, aI k 6 (fun _ => 0)), (r 4, aI k 6 (fun _ => 0)), (r 5, aI k 6 (fun _ => 0))] := by
    rw [List.append_assoc]
    simp [va_pl, List.range, List.range.loop, vr_up]
  rw [hrw] at hP1 hD1
  exact kk q r H1 locs hP1 hD1 (S_tr hS hS1) (Nat.le_trans hZ hS1.1) ls hl
end GZ
end
