theorem dX6_init_0 : decode cX6_init 0 = .ok (.aload_n 0, 1) := by decide +kernel
theorem dX6_init_1 : decode cX6_init 1 = .ok (.invokespecial 3, 3) := by decide +kernel
theorem q_28 : (Jvm.Cond.methodLink "Chipfold$Pile" (3 : Nat) ({ cls := "java/lang/Object", name := "<init>", desc := "()V" } : Jvm.MethodName)) ∈ WG := wg_1 (List.mem_of_getElem? (i := 86) (by decide +kernel)) (by decide +kernel)
theorem dX6_init_4 : decode cX6_init 4 = .ok (.aload_n 0, 1) := by decide +kernel
theorem dX6_init_5 : decode cX6_init 5 = .ok (.new 9, 3) := by decide +kernel
theorem q_29 : (Jvm.Cond.instantiable "Chipfold$Row" (1 : Nat)) ∈ WG := wg_1 (List.mem_of_getElem? (i := 72) (by decide +kernel)) (by decide +kernel)
theorem q_30 : (Jvm.Cond.classLink "Chipfold$Pile" (9 : Nat) "Chipfold$Row") ∈ WG := wg_1 (List.mem_of_getElem? (i := 87) (by decide +kernel)) (by decide +kernel)
theorem dX6_init_8 : decode cX6_init 8 = .ok (.dup, 1) := by decide +kernel
theorem dX6_init_9 : decode cX6_init 9 = .ok (.bipush 6, 2) := by decide +kernel
theorem dX6_init_11 : decode cX6_init 11 = .ok (.invokespecial 11, 3) := by decide +kernel
theorem q_31 : (Jvm.Cond.code ({ cls := "Chipfold$Row", name := "<init>", desc := "(I)V" } : Jvm.MethodName) prog_10_method_1_code (2 : Nat) (Option.none : Option Jvm.ClassFile.FieldType)) ∈ WG := wg_1 (List.mem_of_getElem? (i := 75) rfl) rfl
theorem q_32 : (Jvm.Cond.methodLink "Chipfold$Pile" (11 : Nat) ({ cls := "Chipfold$Row", name := "<init>", desc := "(I)V" } : Jvm.MethodName)) ∈ WG := wg_1 (List.mem_of_getElem? (i := 88) (by decide +kernel)) (by decide +kernel)
theorem q_33 : (Jvm.Cond.instanceMethod ({ cls := "Chipfold$Row", name := "<init>", desc := "(I)V" } : Jvm.MethodName)) ∈ WG := wg_1 (List.mem_of_getElem? (i := 74) (by decide +kernel)) (by decide +kernel)
theorem dX6_init_14 : decode cX6_init 14 = .ok (.putfield 14, 3) := by decide +kernel
theorem q_34 : (Jvm.Cond.fieldLink "Chipfold$Pile" (14 : Nat) "Chipfold$Pile" "held" "LChipfold$Row;") ∈ WG := wg_1 (List.mem_of_getElem? (i := 90) (by decide +kernel)) (by decide +kernel)
theorem inX6 : ∀ w ∈ u_ws RX6 TX6 4, w ∈ WG := by decide +kernel
theorem dX6_init_17 : decode cX6_init 17 = .ok (.aload_n 0, 1) := by decide +kernel
theorem dX6_init_18 : decode cX6_init 18 = .ok (.new 9, 3) := by decide +kernel
theorem dX6_init_21 : decode cX6_init 21 = .ok (.dup, 1) := by decide +kernel
theorem dX6_init_22 : decode cX6_init 22 = .ok (.bipush 6, 2) := by decide +kernel
theorem dX6_init_24 : decode cX6_init 24 = .ok (.invokespecial 11, 3) := by decide +kernel
theorem dX6_init_27 : decode cX6_init 27 = .ok (.putfield 20, 3) := by decide +kernel
theorem q_35 : (Jvm.Cond.fieldLink "Chipfold$Pile" (20 : Nat) "Chipfold$Pile" "counts" "LChipfold$Row;") ∈ WG := wg_1 (List.mem_of_getElem? (i := 91) (by decide +kernel)) (by decide +kernel)
theorem dX6_init_30 : decode cX6_init 30 = .ok (.aload_n 0, 1) := by decide +kernel
theorem dX6_init_31 : decode cX6_init 31 = .ok (.iconst 0, 1) := by decide +kernel
theorem dX6_init_32 : decode cX6_init 32 = .ok (.putfield 23, 3) := by decide +kernel
theorem q_36 : (Jvm.Cond.fieldLink "Chipfold$Pile" (23 : Nat) "Chipfold$Pile" "taken" "I") ∈ WG := wg_1 (List.mem_of_getElem? (i := 92) (by decide +kernel)) (by decide +kernel)
theorem dX6_init_35 : decode cX6_init 35 = .ok (.aload_n 0, 1) := by decide +kernel
theorem dX6_init_36 : decode cX6_init 36 = .ok (.aload_n 1, 1) := by decide +kernel
theorem dX6_init_37 : decode cX6_init 37 = .ok (.putfield 27, 3) := by decide +kernel
theorem q_37 : (Jvm.Cond.fieldLink "Chipfold$Pile" (27 : Nat) "Chipfold$Pile" "graph" "LChipfold$Graph;") ∈ WG := wg_1 (List.mem_of_getElem? (i := 89) (by decide +kernel)) (by decide +kernel)
theorem dX6_init_40 : decode cX6_init 40 = .ok (.return_, 1) := by decide +kernel
theorem dX6_clear_0 : decode cX6_clear 0 = .ok (.aload_n 0, 1) := by decide +kernel
theorem dX6_clear_1 : decode cX6_clear 1 = .ok (.getfield 14, 3) := by decide +kernel
theorem dX6_clear_4 : decode cX6_clear 4 = .ok (.iconst 0, 1) := by decide +kernel
theorem dX6_clear_5 : decode cX6_clear 5 = .ok (.invokevirtual 31, 3) := by decide +kernel
theorem q_38 : (Jvm.Cond.code ({ cls := "Chipfold$Row", name := "fill", desc := "(I)V" } : Jvm.MethodName) prog_10_method_5_code (3 : Nat) (Option.none : Option Jvm.ClassFile.FieldType)) ∈ WG := wg_2 (List.mem_of_getElem? (i := 147) rfl) rfl
theorem q_39 : (Jvm.Cond.selects "Chipfold$Row" ({ cls := "Chipfold$Row", name := "fill", desc := "(I)V" } : Jvm.MethodName) ({ cls := "Chipfold$Row", name := "fill", desc := "(I)V" } : Jvm.MethodName)) ∈ WG := wg_2 (List.mem_of_getElem? (i := 146) (by decide +kernel)) (by decide +kernel)
theorem q_40 : (Jvm.Cond.methodLink "Chipfold$Pile" (31 : Nat) ({ cls := "Chipfold$Row", name := "fill", desc := "(I)V" } : Jvm.MethodName)) ∈ WG := wg_2 (List.mem_of_getElem? (i := 144) (by decide +kernel)) (by decide +kernel)
theorem q_41 : (Jvm.Cond.instanceMethod ({ cls := "Chipfold$Row", name := "fill", desc := "(I)V" } : Jvm.MethodName)) ∈ WG := wg_2 (List.mem_of_getElem? (i := 145) (by decide +kernel)) (by decide +kernel)
theorem dX6_clear_8 : decode cX6_clear 8 = .ok (.aload_n 0, 1) := by decide +kernel
theorem dX6_clear_9 : decode cX6_clear 9 = .ok (.getfield 20, 3) := by decide +kernel
theorem dX6_clear_12 : decode cX6_clear 12 = .ok (.iconst 0, 1) := by decide +kernel
theorem dX6_clear_13 : decode cX6_clear 13 = .ok (.invokevirtual 31, 3) := by decide +kernel
theorem dX6_clear_16 : decode cX6_clear 16 = .ok (.aload_n 0, 1) := by decide +kernel
theorem dX6_clear_17 : decode cX6_clear 17 = .ok (.iconst 0, 1) := by decide +kernel
theorem dX6_clear_18 : decode cX6_clear 18 = .ok (.putfield 23, 3) := by decide +kernel
theorem dX6_clear_21 : decode cX6_clear 21 = .ok (.return_, 1) := by decide +kernel
theorem dX6_copyChips_0 : decode cX6_copyChips 0 = .ok (.aload_n 0, 1) := by decide +kernel
theorem dX6_copyChips_1 : decode cX6_copyChips 1 = .ok (.invokevirtual 34, 3) := by decide +kernel
theorem q_42 : (Jvm.Cond.code ({ cls := "Chipfold$Pile", name := "clear", desc := "()V" } : Jvm.MethodName) prog_8_method_2_code (1 : Nat) (Option.none : Option Jvm.ClassFile.FieldType)) ∈ WG := wg_2 (List.mem_of_getElem? (i := 143) rfl) rfl
theorem q_43 : (Jvm.Cond.initialized "Chipfold$Pile") ∈ WG := wg_1 (List.mem_of_getElem? (i := 5) (by decide +kernel)) (by decide +kernel)
theorem q_44 : (Jvm.Cond.selects "Chipfold$Pile" ({ cls := "Chipfold$Pile", name := "clear", desc := "()V" } : Jvm.MethodName) ({ cls := "Chipfold$Pile", name := "clear", desc := "()V" } : Jvm.MethodName)) ∈ WG := wg_2 (List.mem_of_getElem? (i := 142) (by decide +kernel)) (by decide +kernel)
theorem q_45 : (Jvm.Cond.methodLink "Chipfold$Pile" (34 : Nat) ({ cls := "Chipfold$Pile", name := "clear", desc := "()V" } : Jvm.MethodName)) ∈ WG := wg_2 (List.mem_of_getElem? (i := 140) (by decide +kernel)) (by decide +kernel)
theorem q_46 : (Jvm.Cond.instanceMethod ({ cls := "Chipfold$Pile", name := "clear", desc := "()V" } : Jvm.MethodName)) ∈ WG := wg_2 (List.mem_of_getElem? (i := 141) (by decide +kernel)) (by decide +kernel)
theorem dX6_copyChips_4 : decode cX6_copyChips 4 = .ok (.aload_n 0, 1) := by decide +kernel
theorem dX6_copyChips_5 : decode cX6_copyChips 5 = .ok (.getfield 14, 3) := by decide +kernel
theorem dX6_copyChips_8 : decode cX6_copyChips 8 = .ok (.aload_n 1, 1) := by decide +kernel
theorem dX6_copyChips_9 : decode cX6_copyChips 9 = .ok (.getfield 14, 3) := by decide +kernel
theorem dX6_copyChips_12 : decode cX6_copyChips 12 = .ok (.invokevirtual 37, 3) := by decide +kernel
theorem q_47 : (Jvm.Cond.code ({ cls := "Chipfold$Row", name := "copy", desc := "(LChipfold$Row;)V" } : Jvm.MethodName) prog_10_method_6_code (3 : Nat) (Option.none : Option Jvm.ClassFile.FieldType)) ∈ WG := wg_2 (List.mem_of_getElem? (i := 151) rfl) rfl
theorem q_48 : (Jvm.Cond.selects "Chipfold$Row" ({ cls := "Chipfold$Row", name := "copy", desc := "(LChipfold$Row;)V" } : Jvm.MethodName) ({ cls := "Chipfold$Row", name := "copy", desc := "(LChipfold$Row;)V" } : Jvm.MethodName)) ∈ WG := wg_2 (List.mem_of_getElem? (i := 150) (by decide +kernel)) (by decide +kernel)
theorem q_49 : (Jvm.Cond.methodLink "Chipfold$Pile" (37 : Nat) ({ cls := "Chipfold$Row", name := "copy", desc := "(LChipfold$Row;)V" } : Jvm.MethodName)) ∈ WG := wg_2 (List.mem_of_getElem? (i := 148) (by decide +kernel)) (by decide +kernel)
theorem q_50 : (Jvm.Cond.instanceMethod ({ cls := "Chipfold$Row", name := "copy", desc := "(LChipfold$Row;)V" } : Jvm.MethodName)) ∈ WG := wg_2 (List.mem_of_getElem? (i := 149) (by decide +kernel)) (by decide +kernel)
theorem dX6_copyChips_15 : decode cX6_copyChips 15 = .ok (.return_, 1) := by decide +kernel
theorem dX6_at_0 : decode cX6_at 0 = .ok (.aload_n 0, 1) := by decide +kernel
theorem dX6_at_1 : decode cX6_at 1 = .ok (.getfield 14, 3) := by decide +kernel
theorem dX6_at_4 : decode cX6_at 4 = .ok (.iload_n 1, 1) := by decide +kernel
theorem dX6_at_5 : decode cX6_at 5 = .ok (.invokevirtual 45, 3) := by decide +kernel
theorem q_51 : (Jvm.Cond.methodLink "Chipfold$Pile" (45 : Nat) ({ cls := "Chipfold$Row", name := "at", desc := "(I)I" } : Jvm.MethodName)) ∈ WG := wg_2 (List.mem_of_getElem? (i := 168) (by decide +kernel)) (by decide +kernel)
theorem dX6_at_8 : decode cX6_at 8 = .ok (.ireturn, 1) := by decide +kernel
theorem dX6_receive_0 : decode cX6_receive 0 = .ok (.aload_n 0, 1) := by decide +kernel
theorem dX6_receive_1 : decode cX6_receive 1 = .ok (.getfield 27, 3) := by decide +kernel
theorem dX6_receive_4 : decode cX6_receive 4 = .ok (.iload_n 1, 1) := by decide +kernel
theorem dX6_receive_5 : decode cX6_receive 5 = .ok (.invokevirtual 53, 3) := by decide +kernel
theorem q_52 : (Jvm.Cond.code ({ cls := "Chipfold$Graph", name := "isSink", desc := "(I)Z" } : Jvm.MethodName) prog_5_method_9_code (2 : Nat) (Option.some Jvm.ClassFile.FieldType.boolean)) ∈ WG := wg_2 (List.mem_of_getElem? (i := 167) rfl) rfl
theorem q_53 : (Jvm.Cond.selects "Chipfold$Graph" ({ cls := "Chipfold$Graph", name := "isSink", desc := "(I)Z" } : Jvm.MethodName) ({ cls := "Chipfold$Graph", name := "isSink", desc := "(I)Z" } : Jvm.MethodName)) ∈ WG := wg_2 (List.mem_of_getElem? (i := 166) (by decide +kernel)) (by decide +kernel)
theorem q_54 : (Jvm.Cond.methodLink "Chipfold$Pile" (53 : Nat) ({ cls := "Chipfold$Graph", name := "isSink", desc := "(I)Z" } : Jvm.MethodName)) ∈ WG := wg_2 (List.mem_of_getElem? (i := 164) (by decide +kernel)) (by decide +kernel)
theorem q_55 : (Jvm.Cond.instanceMethod ({ cls := "Chipfold$Graph", name := "isSink", desc := "(I)Z" } : Jvm.MethodName)) ∈ WG := wg_2 (List.mem_of_getElem? (i := 165) (by decide +kernel)) (by decide +kernel)
theorem dX6_receive_8 : decode cX6_receive 8 = .ok (.ifCond .eq 16, 3) := by decide +kernel
theorem dX6_receive_24 : decode cX6_receive 24 = .ok (.aload_n 0, 1) := by decide +kernel
theorem dX6_receive_25 : decode cX6_receive 25 = .ok (.getfield 14, 3) := by decide +kernel
theorem dX6_receive_28 : decode cX6_receive 28 = .ok (.iload_n 1, 1) := by decide +kernel
theorem dX6_receive_29 : decode cX6_receive 29 = .ok (.iload_n 2, 1) := by decide +kernel
theorem dX6_receive_30 : decode cX6_receive 30 = .ok (.invokevirtual 59, 3) := by decide +kernel
theorem q_56 : (Jvm.Cond.code ({ cls := "Chipfold$Row", name := "add", desc := "(II)V" } : Jvm.MethodName) prog_10_method_4_code (3 : Nat) (Option.none : Option Jvm.ClassFile.FieldType)) ∈ WG := wg_2 (List.mem_of_getElem? (i := 131) rfl) rfl
theorem q_57 : (Jvm.Cond.selects "Chipfold$Row" ({ cls := "Chipfold$Row", name := "add", desc := "(II)V" } : Jvm.MethodName) ({ cls := "Chipfold$Row", name := "add", desc := "(II)V" } : Jvm.MethodName)) ∈ WG := wg_2 (List.mem_of_getElem? (i := 130) (by decide +kernel)) (by decide +kernel)
theorem q_58 : (Jvm.Cond.methodLink "Chipfold$Pile" (59 : Nat) ({ cls := "Chipfold$Row", name := "add", desc := "(II)V" } : Jvm.MethodName)) ∈ WG := wg_2 (List.mem_of_getElem? (i := 173) (by decide +kernel)) (by decide +kernel)
theorem q_59 : (Jvm.Cond.instanceMethod ({ cls := "Chipfold$Row", name := "add", desc := "(II)V" } : Jvm.MethodName)) ∈ WG := wg_2 (List.mem_of_getElem? (i := 129) (by decide +kernel)) (by decide +kernel)
theorem dX6_receive_33 : decode cX6_receive 33 = .ok (.return_, 1) := by decide +kernel
theorem dX6_receive_11 : decode cX6_receive 11 = .ok (.aload_n 0, 1) := by decide +kernel
theorem dX6_receive_12 : decode cX6_receive 12 = .ok (.dup, 1) := by decide +kernel
theorem dX6_receive_13 : decode cX6_receive 13 = .ok (.getfield 23, 3) := by decide +kernel
theorem dX6_receive_16 : decode cX6_receive 16 = .ok (.iload_n 2, 1) := by decide +kernel
theorem dX6_receive_17 : decode cX6_receive 17 = .ok (.iadd, 1) := by decide +kernel
theorem dX6_receive_18 : decode cX6_receive 18 = .ok (.putfield 23, 3) := by decide +kernel
theorem dX6_receive_21 : decode cX6_receive 21 = .ok (.goto 12, 3) := by decide +kernel
theorem dX6_canTopple_0 : decode cX6_canTopple 0 = .ok (.aload_n 0, 1) := by decide +kernel
theorem dX6_canTopple_1 : decode cX6_canTopple 1 = .ok (.getfield 27, 3) := by decide +kernel
theorem dX6_canTopple_4 : decode cX6_canTopple 4 = .ok (.iload_n 1, 1) := by decide +kernel
theorem dX6_canTopple_5 : decode cX6_canTopple 5 = .ok (.invokevirtual 63, 3) := by decide +kernel
theorem q_60 : (Jvm.Cond.code ({ cls := "Chipfold$Graph", name := "degreeOf", desc := "(I)I" } : Jvm.MethodName) prog_5_method_11_code (2 : Nat) (Option.some Jvm.ClassFile.FieldType.int)) ∈ WG := wg_2 (List.mem_of_getElem? (i := 74) rfl) rfl
theorem q_61 : (Jvm.Cond.selects "Chipfold$Graph" ({ cls := "Chipfold$Graph", name := "degreeOf", desc := "(I)I" } : Jvm.MethodName) ({ cls := "Chipfold$Graph", name := "degreeOf", desc := "(I)I" } : Jvm.MethodName)) ∈ WG := wg_2 (List.mem_of_getElem? (i := 73) (by decide +kernel)) (by decide +kernel)
theorem q_62 : (Jvm.Cond.methodLink "Chipfold$Pile" (63 : Nat) ({ cls := "Chipfold$Graph", name := "degreeOf", desc := "(I)I" } : Jvm.MethodName)) ∈ WG := wg_2 (List.mem_of_getElem? (i := 159) (by decide +kernel)) (by decide +kernel)
theorem q_63 : (Jvm.Cond.instanceMethod ({ cls := "Chipfold$Graph", name := "degreeOf", desc := "(I)I" } : Jvm.MethodName)) ∈ WG := wg_2 (List.mem_of_getElem? (i := 72) (by decide +kernel)) (by decide +kernel)
theorem dX6_canTopple_8 : decode cX6_canTopple 8 = .ok (.istore_n 2, 1) := by decide +kernel
theorem dX6_canTopple_9 : decode cX6_canTopple 9 = .ok (.aload_n 0, 1) := by decide +kernel
theorem dX6_canTopple_10 : decode cX6_canTopple 10 = .ok (.getfield 27, 3) := by decide +kernel
theorem dX6_canTopple_13 : decode cX6_canTopple 13 = .ok (.iload_n 1, 1) := by decide +kernel
theorem dX6_canTopple_14 : decode cX6_canTopple 14 = .ok (.invokevirtual 53, 3) := by decide +kernel
theorem dX6_canTopple_17 : decode cX6_canTopple 17 = .ok (.ifCond .ne 23, 3) := by decide +kernel
theorem dX6_canTopple_40 : decode cX6_canTopple 40 = .ok (.iconst 0, 1) := by decide +kernel
theorem dX6_canTopple_41 : decode cX6_canTopple 41 = .ok (.ireturn, 1) := by decide +kernel
theorem dX6_canTopple_20 : decode cX6_canTopple 20 = .ok (.iload_n 2, 1) := by decide +kernel
theorem dX6_canTopple_21 : decode cX6_canTopple 21 = .ok (.ifCond .le 19, 3) := by decide +kernel
theorem dX6_canTopple_24 : decode cX6_canTopple 24 = .ok (.aload_n 0, 1) := by decide +kernel
theorem dX6_canTopple_25 : decode cX6_canTopple 25 = .ok (.getfield 14, 3) := by decide +kernel
theorem dX6_canTopple_28 : decode cX6_canTopple 28 = .ok (.iload_n 1, 1) := by decide +kernel
theorem dX6_canTopple_29 : decode cX6_canTopple 29 = .ok (.invokevirtual 45, 3) := by decide +kernel
theorem dX6_canTopple_32 : decode cX6_canTopple 32 = .ok (.iload_n 2, 1) := by decide +kernel
theorem dX6_canTopple_33 : decode cX6_canTopple 33 = .ok (.if_icmp .lt 7, 3) := by decide +kernel
theorem dX6_canTopple_36 : decode cX6_canTopple 36 = .ok (.iconst 1, 1) := by decide +kernel
theorem dX6_canTopple_37 : decode cX6_canTopple 37 = .ok (.goto 4, 3) := by decide +kernel
theorem dX6_toppleTimes_0 : decode cX6_toppleTimes 0 = .ok (.aload_n 0, 1) := by decide +kernel
theorem dX6_toppleTimes_1 : decode cX6_toppleTimes 1 = .ok (.getfield 14, 3) := by decide +kernel
theorem dX6_toppleTimes_4 : decode cX6_toppleTimes 4 = .ok (.iload_n 1, 1) := by decide +kernel
theorem dX6_toppleTimes_5 : decode cX6_toppleTimes 5 = .ok (.iload_n 2, 1) := by decide +kernel
theorem dX6_toppleTimes_6 : decode cX6_toppleTimes 6 = .ok (.ineg, 1) := by decide +kernel
theorem dX6_toppleTimes_7 : decode cX6_toppleTimes 7 = .ok (.aload_n 0, 1) := by decide +kernel
theorem dX6_toppleTimes_8 : decode cX6_toppleTimes 8 = .ok (.getfield 27, 3) := by decide +kernel
theorem dX6_toppleTimes_11 : decode cX6_toppleTimes 11 = .ok (.iload_n 1, 1) := by decide +kernel
theorem dX6_toppleTimes_12 : decode cX6_toppleTimes 12 = .ok (.invokevirtual 63, 3) := by decide +kernel
theorem dX6_toppleTimes_15 : decode cX6_toppleTimes 15 = .ok (.imul, 1) := by decide +kernel
theorem dX6_toppleTimes_16 : decode cX6_toppleTimes 16 = .ok (.invokevirtual 59, 3) := by decide +kernel
theorem dX6_toppleTimes_19 : decode cX6_toppleTimes 19 = .ok (.aload_n 0, 1) := by decide +kernel
theorem dX6_toppleTimes_20 : decode cX6_toppleTimes 20 = .ok (.getfield 20, 3) := by decide +kernel
theorem dX6_toppleTimes_23 : decode cX6_toppleTimes 23 = .ok (.iload_n 1, 1) := by decide +kernel
theorem dX6_toppleTimes_24 : decode cX6_toppleTimes 24 = .ok (.iload_n 2, 1) := by decide +kernel
theorem dX6_toppleTimes_25 : decode cX6_toppleTimes 25 = .ok (.invokevirtual 59, 3) := by decide +kernel
theorem dX6_toppleTimes_28 : decode cX6_toppleTimes 28 = .ok (.iconst 0, 1) := by decide +kernel
theorem dX6_toppleTimes_29 : decode cX6_toppleTimes 29 = .ok (.istore_n 3, 1) := by decide +kernel
theorem dX6_toppleTimes_30 : decode cX6_toppleTimes 30 = .ok (.iload_n 3, 1) := by decide +kernel
theorem dX6_toppleTimes_31 : decode cX6_toppleTimes 31 = .ok (.aload_n 0, 1) := by decide +kernel
theorem dX6_toppleTimes_32 : decode cX6_toppleTimes 32 = .ok (.getfield 27, 3) := by decide +kernel
theorem dX6_toppleTimes_35 : decode cX6_toppleTimes 35 = .ok (.invokevirtual 66, 3) := by decide +kernel
theorem q_64 : (Jvm.Cond.code ({ cls := "Chipfold$Graph", name := "size", desc := "()I" } : Jvm.MethodName) prog_5_method_2_code (1 : Nat) (Option.some Jvm.ClassFile.FieldType.int)) ∈ WG := wg_2 (List.mem_of_getElem? (i := 58) rfl) rfl
theorem q_65 : (Jvm.Cond.selects "Chipfold$Graph" ({ cls := "Chipfold$Graph", name := "size", desc := "()I" } : Jvm.MethodName) ({ cls := "Chipfold$Graph", name := "size", desc := "()I" } : Jvm.MethodName)) ∈ WG := wg_2 (List.mem_of_getElem? (i := 57) (by decide +kernel)) (by decide +kernel)
theorem q_66 : (Jvm.Cond.methodLink "Chipfold$Pile" (66 : Nat) ({ cls := "Chipfold$Graph", name := "size", desc := "()I" } : Jvm.MethodName)) ∈ WG := wg_2 (List.mem_of_getElem? (i := 158) (by decide +kernel)) (by decide +kernel)
theorem q_67 : (Jvm.Cond.instanceMethod ({ cls := "Chipfold$Graph", name := "size", desc := "()I" } : Jvm.MethodName)) ∈ WG := wg_2 (List.mem_of_getElem? (i := 56) (by decide +kernel)) (by decide +kernel)
theorem dX6_toppleTimes_38 : decode cX6_toppleTimes 38 = .ok (.if_icmp .ge 57, 3) := by decide +kernel
theorem dX6_toppleTimes_95 : decode cX6_toppleTimes 95 = .ok (.return_, 1) := by decide +kernel
theorem dX6_toppleTimes_41 : decode cX6_toppleTimes 41 = .ok (.iload_n 2, 1) := by decide +kernel
theorem dX6_toppleTimes_42 : decode cX6_toppleTimes 42 = .ok (.aload_n 0, 1) := by decide +kernel
theorem dX6_toppleTimes_43 : decode cX6_toppleTimes 43 = .ok (.getfield 27, 3) := by decide +kernel
theorem dX6_toppleTimes_46 : decode cX6_toppleTimes 46 = .ok (.iload_n 1, 1) := by decide +kernel
theorem dX6_toppleTimes_47 : decode cX6_toppleTimes 47 = .ok (.iload_n 3, 1) := by decide +kernel
theorem dX6_toppleTimes_48 : decode cX6_toppleTimes 48 = .ok (.invokevirtual 72, 3) := by decide +kernel
theorem q_68 : (Jvm.Cond.methodLink "Chipfold$Pile" (72 : Nat) ({ cls := "Chipfold$Graph", name := "between", desc := "(II)I" } : Jvm.MethodName)) ∈ WG := wg_2 (List.mem_of_getElem? (i := 174) (by decide +kernel)) (by decide +kernel)
theorem dX6_toppleTimes_51 : decode cX6_toppleTimes 51 = .ok (.imul, 1) := by decide +kernel
theorem dX6_toppleTimes_52 : decode cX6_toppleTimes 52 = .ok (.istore 4, 2) := by decide +kernel
theorem dX6_toppleTimes_54 : decode cX6_toppleTimes 54 = .ok (.aload_n 0, 1) := by decide +kernel
theorem dX6_toppleTimes_55 : decode cX6_toppleTimes 55 = .ok (.getfield 27, 3) := by decide +kernel
theorem dX6_toppleTimes_58 : decode cX6_toppleTimes 58 = .ok (.iload_n 3, 1) := by decide +kernel
theorem dX6_toppleTimes_59 : decode cX6_toppleTimes 59 = .ok (.invokevirtual 53, 3) := by decide +kernel
theorem dX6_toppleTimes_62 : decode cX6_toppleTimes 62 = .ok (.ifCond .eq 17, 3) := by decide +kernel
theorem dX6_toppleTimes_79 : decode cX6_toppleTimes 79 = .ok (.aload_n 0, 1) := by decide +kernel
theorem dX6_toppleTimes_80 : decode cX6_toppleTimes 80 = .ok (.getfield 14, 3) := by decide +kernel
theorem dX6_toppleTimes_83 : decode cX6_toppleTimes 83 = .ok (.iload_n 3, 1) := by decide +kernel
theorem dX6_toppleTimes_84 : decode cX6_toppleTimes 84 = .ok (.iload 4, 2) := by decide +kernel
theorem dX6_toppleTimes_86 : decode cX6_toppleTimes 86 = .ok (.invokevirtual 59, 3) := by decide +kernel
theorem dX6_toppleTimes_89 : decode cX6_toppleTimes 89 = .ok (.iinc 3 1, 3) := by decide +kernel
theorem dX6_toppleTimes_92 : decode cX6_toppleTimes 92 = .ok (.goto (-62), 3) := by decide +kernel
theorem dX6_toppleTimes_65 : decode cX6_toppleTimes 65 = .ok (.aload_n 0, 1) := by decide +kernel
theorem dX6_toppleTimes_66 : decode cX6_toppleTimes 66 = .ok (.dup, 1) := by decide +kernel
theorem dX6_toppleTimes_67 : decode cX6_toppleTimes 67 = .ok (.getfield 23, 3) := by decide +kernel
theorem dX6_toppleTimes_70 : decode cX6_toppleTimes 70 = .ok (.iload 4, 2) := by decide +kernel
theorem dX6_toppleTimes_72 : decode cX6_toppleTimes 72 = .ok (.iadd, 1) := by decide +kernel
theorem dX6_toppleTimes_73 : decode cX6_toppleTimes 73 = .ok (.putfield 23, 3) := by decide +kernel
theorem dX6_toppleTimes_76 : decode cX6_toppleTimes 76 = .ok (.goto 13, 3) := by decide +kernel
theorem dX6_toppleWave_0 : decode cX6_toppleWave 0 = .ok (.iconst 0, 1) := by decide +kernel
theorem dX6_toppleWave_1 : decode cX6_toppleWave 1 = .ok (.istore_n 1, 1) := by decide +kernel
theorem dX6_toppleWave_2 : decode cX6_toppleWave 2 = .ok (.iconst 0, 1) := by decide +kernel
theorem dX6_toppleWave_3 : decode cX6_toppleWave 3 = .ok (.istore_n 2, 1) := by decide +kernel
theorem dX6_toppleWave_4 : decode cX6_toppleWave 4 = .ok (.iload_n 2, 1) := by decide +kernel
theorem dX6_toppleWave_5 : decode cX6_toppleWave 5 = .ok (.aload_n 0, 1) := by decide +kernel
theorem dX6_toppleWave_6 : decode cX6_toppleWave 6 = .ok (.getfield 27, 3) := by decide +kernel
theorem dX6_toppleWave_9 : decode cX6_toppleWave 9 = .ok (.invokevirtual 66, 3) := by decide +kernel
theorem dX6_toppleWave_12 : decode cX6_toppleWave 12 = .ok (.if_icmp .ge 23, 3) := by decide +kernel
theorem dX6_toppleWave_35 : decode cX6_toppleWave 35 = .ok (.iconst 0, 1) := by decide +kernel
theorem dX6_toppleWave_36 : decode cX6_toppleWave 36 = .ok (.istore_n 2, 1) := by decide +kernel
theorem dX6_toppleWave_37 : decode cX6_toppleWave 37 = .ok (.iload_n 2, 1) := by decide +kernel
theorem dX6_toppleWave_38 : decode cX6_toppleWave 38 = .ok (.aload_n 0, 1) := by decide +kernel
theorem dX6_toppleWave_39 : decode cX6_toppleWave 39 = .ok (.getfield 27, 3) := by decide +kernel
theorem dX6_toppleWave_42 : decode cX6_toppleWave 42 = .ok (.invokevirtual 66, 3) := by decide +kernel
theorem dX6_toppleWave_45 : decode cX6_toppleWave 45 = .ok (.if_icmp .ge 24, 3) := by decide +kernel
theorem dX6_toppleWave_69 : decode cX6_toppleWave 69 = .ok (.iload_n 1, 1) := by decide +kernel
theorem dX6_toppleWave_70 : decode cX6_toppleWave 70 = .ok (.ifCond .eq 7, 3) := by decide +kernel
theorem dX6_toppleWave_77 : decode cX6_toppleWave 77 = .ok (.iconst 0, 1) := by decide +kernel
theorem dX6_toppleWave_78 : decode cX6_toppleWave 78 = .ok (.ireturn, 1) := by decide +kernel
theorem dX6_toppleWave_73 : decode cX6_toppleWave 73 = .ok (.iconst 1, 1) := by decide +kernel
theorem dX6_toppleWave_74 : decode cX6_toppleWave 74 = .ok (.goto 4, 3) := by decide +kernel
theorem dX6_toppleWave_48 : decode cX6_toppleWave 48 = .ok (.iload_n 1, 1) := by decide +kernel
theorem dX6_toppleWave_49 : decode cX6_toppleWave 49 = .ok (.iload_n 2, 1) := by decide +kernel
theorem dX6_toppleWave_50 : decode cX6_toppleWave 50 = .ok (.ishr, 1) := by decide +kernel
theorem dX6_toppleWave_51 : decode cX6_toppleWave 51 = .ok (.iconst 1, 1) := by decide +kernel
theorem dX6_toppleWave_52 : decode cX6_toppleWave 52 = .ok (.iand, 1) := by decide +kernel
theorem dX6_toppleWave_53 : decode cX6_toppleWave 53 = .ok (.iconst 1, 1) := by decide +kernel
theorem dX6_toppleWave_54 : decode cX6_toppleWave 54 = .ok (.if_icmp .ne 9, 3) := by decide +kernel
theorem dX6_toppleWave_63 : decode cX6_toppleWave 63 = .ok (.iinc 2 1, 3) := by decide +kernel
theorem dX6_toppleWave_66 : decode cX6_toppleWave 66 = .ok (.goto (-29), 3) := by decide +kernel
theorem dX6_toppleWave_57 : decode cX6_toppleWave 57 = .ok (.aload_n 0, 1) := by decide +kernel
theorem dX6_toppleWave_58 : decode cX6_toppleWave 58 = .ok (.iload_n 2, 1) := by decide +kernel
theorem dX6_toppleWave_59 : decode cX6_toppleWave 59 = .ok (.iconst 1, 1) := by decide +kernel
theorem dX6_toppleWave_60 : decode cX6_toppleWave 60 = .ok (.invokevirtual 77, 3) := by decide +kernel
theorem q_69 : (Jvm.Cond.code ({ cls := "Chipfold$Pile", name := "toppleTimes", desc := "(II)V" } : Jvm.MethodName) prog_8_method_12_code (5 : Nat) (Option.none : Option Jvm.ClassFile.FieldType)) ∈ WG := wg_2 (List.mem_of_getElem? (i := 172) rfl) rfl
theorem q_70 : (Jvm.Cond.selects "Chipfold$Pile" ({ cls := "Chipfold$Pile", name := "toppleTimes", desc := "(II)V" } : Jvm.MethodName) ({ cls := "Chipfold$Pile", name := "toppleTimes", desc := "(II)V" } : Jvm.MethodName)) ∈ WG := wg_2 (List.mem_of_getElem? (i := 171) (by decide +kernel)) (by decide +kernel)
theorem q_71 : (Jvm.Cond.methodLink "Chipfold$Pile" (77 : Nat) ({ cls := "Chipfold$Pile", name := "toppleTimes", desc := "(II)V" } : Jvm.MethodName)) ∈ WG := wg_2 (List.mem_of_getElem? (i := 169) (by decide +kernel)) (by decide +kernel)
theorem q_72 : (Jvm.Cond.instanceMethod ({ cls := "Chipfold$Pile", name := "toppleTimes", desc := "(II)V" } : Jvm.MethodName)) ∈ WG := wg_2 (List.mem_of_getElem? (i := 170) (by decide +kernel)) (by decide +kernel)
theorem dX6_toppleWave_15 : decode cX6_toppleWave 15 = .ok (.aload_n 0, 1) := by decide +kernel
theorem dX6_toppleWave_16 : decode cX6_toppleWave 16 = .ok (.iload_n 2, 1) := by decide +kernel
theorem dX6_toppleWave_17 : decode cX6_toppleWave 17 = .ok (.invokevirtual 69, 3) := by decide +kernel
theorem q_73 : (Jvm.Cond.code ({ cls := "Chipfold$Pile", name := "canTopple", desc := "(I)Z" } : Jvm.MethodName) prog_8_method_10_code (3 : Nat) (Option.some Jvm.ClassFile.FieldType.boolean)) ∈ WG := wg_2 (List.mem_of_getElem? (i := 163) rfl) rfl
theorem q_74 : (Jvm.Cond.selects "Chipfold$Pile" ({ cls := "Chipfold$Pile", name := "canTopple", desc := "(I)Z" } : Jvm.MethodName) ({ cls := "Chipfold$Pile", name := "canTopple", desc := "(I)Z" } : Jvm.MethodName)) ∈ WG := wg_2 (List.mem_of_getElem? (i := 162) (by decide +kernel)) (by decide +kernel)
theorem q_75 : (Jvm.Cond.methodLink "Chipfold$Pile" (69 : Nat) ({ cls := "Chipfold$Pile", name := "canTopple", desc := "(I)Z" } : Jvm.MethodName)) ∈ WG := wg_2 (List.mem_of_getElem? (i := 160) (by decide +kernel)) (by decide +kernel)
theorem q_76 : (Jvm.Cond.instanceMethod ({ cls := "Chipfold$Pile", name := "canTopple", desc := "(I)Z" } : Jvm.MethodName)) ∈ WG := wg_2 (List.mem_of_getElem? (i := 161) (by decide +kernel)) (by decide +kernel)
theorem dX6_toppleWave_20 : decode cX6_toppleWave 20 = .ok (.ifCond .eq 9, 3) := by decide +kernel
theorem dX6_toppleWave_29 : decode cX6_toppleWave 29 = .ok (.iinc 2 1, 3) := by decide +kernel
theorem dX6_toppleWave_32 : decode cX6_toppleWave 32 = .ok (.goto (-28), 3) := by decide +kernel
theorem dX6_toppleWave_23 : decode cX6_toppleWave 23 = .ok (.iload_n 1, 1) := by decide +kernel
theorem dX6_toppleWave_24 : decode cX6_toppleWave 24 = .ok (.iconst 1, 1) := by decide +kernel
theorem dX6_toppleWave_25 : decode cX6_toppleWave 25 = .ok (.iload_n 2, 1) := by decide +kernel
theorem dX6_toppleWave_26 : decode cX6_toppleWave 26 = .ok (.ishl, 1) := by decide +kernel
theorem dX6_toppleWave_27 : decode cX6_toppleWave 27 = .ok (.ior, 1) := by decide +kernel
theorem dX6_toppleWave_28 : decode cX6_toppleWave 28 = .ok (.istore_n 1, 1) := by decide +kernel
theorem dX7_init_0 : decode cX7_init 0 = .ok (.aload_n 0, 1) := by decide +kernel
theorem dX7_init_1 : decode cX7_init 1 = .ok (.invokespecial 3, 3) := by decide +kernel
theorem q_77 : (Jvm.Cond.methodLink "Chipfold$Rotors" (3 : Nat) ({ cls := "java/lang/Object", name := "<init>", desc := "()V" } : Jvm.MethodName)) ∈ WG := wg_1 (List.mem_of_getElem? (i := 165) (by decide +kernel)) (by decide +kernel)
theorem dX7_init_4 : decode cX7_init 4 = .ok (.aload_n 0, 1) := by decide +kernel
theorem dX7_init_5 : decode cX7_init 5 = .ok (.new 9, 3) := by decide +kernel
theorem q_78 : (Jvm.Cond.classLink "Chipfold$Rotors" (9 : Nat) "Chipfold$Row") ∈ WG := wg_1 (List.mem_of_getElem? (i := 166) (by decide +kernel)) (by decide +kernel)
theorem dX7_init_8 : decode cX7_init 8 = .ok (.dup, 1) := by decide +kernel
theorem dX7_init_9 : decode cX7_init 9 = .ok (.bipush 6, 2) := by decide +kernel
theorem dX7_init_11 : decode cX7_init 11 = .ok (.invokespecial 11, 3) := by decide +kernel
theorem q_79 : (Jvm.Cond.methodLink "Chipfold$Rotors" (11 : Nat) ({ cls := "Chipfold$Row", name := "<init>", desc := "(I)V" } : Jvm.MethodName)) ∈ WG := wg_1 (List.mem_of_getElem? (i := 167) (by decide +kernel)) (by decide +kernel)
theorem dX7_init_14 : decode cX7_init 14 = .ok (.putfield 14, 3) := by decide +kernel
theorem q_80 : (Jvm.Cond.fieldLink "Chipfold$Rotors" (14 : Nat) "Chipfold$Rotors" "pointed" "LChipfold$Row;") ∈ WG := wg_1 (List.mem_of_getElem? (i := 169) (by decide +kernel)) (by decide +kernel)
theorem inX7 : ∀ w ∈ u_ws RX7 TX7 3, w ∈ WG := by decide +kernel
theorem dX7_init_17 : decode cX7_init 17 = .ok (.aload_n 0, 1) := by decide +kernel
theorem dX7_init_18 : decode cX7_init 18 = .ok (.new 9, 3) := by decide +kernel
theorem dX7_init_21 : decode cX7_init 21 = .ok (.dup, 1) := by decide +kernel
theorem dX7_init_22 : decode cX7_init 22 = .ok (.bipush 6, 2) := by decide +kernel
theorem dX7_init_24 : decode cX7_init 24 = .ok (.invokespecial 11, 3) := by decide +kernel
theorem dX7_init_27 : decode cX7_init 27 = .ok (.putfield 20, 3) := by decide +kernel
theorem q_81 : (Jvm.Cond.fieldLink "Chipfold$Rotors" (20 : Nat) "Chipfold$Rotors" "visited" "LChipfold$Row;") ∈ WG := wg_1 (List.mem_of_getElem? (i := 170) (by decide +kernel)) (by decide +kernel)
theorem dX7_init_30 : decode cX7_init 30 = .ok (.aload_n 0, 1) := by decide +kernel
theorem dX7_init_31 : decode cX7_init 31 = .ok (.aload_n 1, 1) := by decide +kernel
theorem dX7_init_32 : decode cX7_init 32 = .ok (.putfield 23, 3) := by decide +kernel
theorem q_82 : (Jvm.Cond.fieldLink "Chipfold$Rotors" (23 : Nat) "Chipfold$Rotors" "graph" "LChipfold$Graph;") ∈ WG := wg_1 (List.mem_of_getElem? (i := 168) (by decide +kernel)) (by decide +kernel)
theorem dX7_init_35 : decode cX7_init 35 = .ok (.return_, 1) := by decide +kernel
theorem dX7_clear_0 : decode cX7_clear 0 = .ok (.aload_n 0, 1) := by decide +kernel
theorem dX7_clear_1 : decode cX7_clear 1 = .ok (.getfield 14, 3) := by decide +kernel
theorem dX7_clear_4 : decode cX7_clear 4 = .ok (.iconst 0, 1) := by decide +kernel
theorem dX7_clear_5 : decode cX7_clear 5 = .ok (.invokevirtual 27, 3) := by decide +kernel
theorem q_83 : (Jvm.Cond.methodLink "Chipfold$Rotors" (27 : Nat) ({ cls := "Chipfold$Row", name := "fill", desc := "(I)V" } : Jvm.MethodName)) ∈ WG := wg_3 (List.mem_of_getElem? (i := 116) (by decide +kernel)) (by decide +kernel)
theorem dX7_clear_8 : decode cX7_clear 8 = .ok (.aload_n 0, 1) := by decide +kernel
theorem dX7_clear_9 : decode cX7_clear 9 = .ok (.getfield 20, 3) := by decide +kernel
theorem dX7_clear_12 : decode cX7_clear 12 = .ok (.iconst 0, 1) := by decide +kernel
theorem dX7_clear_13 : decode cX7_clear 13 = .ok (.invokevirtual 27, 3) := by decide +kernel
theorem dX7_clear_16 : decode cX7_clear 16 = .ok (.return_, 1) := by decide +kernel
theorem dX0_clear_0 : decode cX0_clear 0 = .ok (.aload_n 0, 1) := by decide +kernel
theorem dX0_clear_1 : decode cX0_clear 1 = .ok (.getfield 14, 3) := by decide +kernel
theorem q_84 : (Jvm.Cond.fieldLink "Chipfold$Debts" (14 : Nat) "Chipfold$Debts" "owned" "LChipfold$Row;") ∈ WG := wg_1 (List.mem_of_getElem? (i := 190) (by decide +kernel)) (by decide +kernel)
theorem inX0 : ∀ w ∈ u_ws RX0 TX0 7, w ∈ WG := by decide +kernel
theorem dX0_clear_4 : decode cX0_clear 4 = .ok (.iconst 0, 1) := by decide +kernel
theorem dX0_clear_5 : decode cX0_clear 5 = .ok (.invokevirtual 46, 3) := by decide +kernel
theorem q_85 : (Jvm.Cond.methodLink "Chipfold$Debts" (46 : Nat) ({ cls := "Chipfold$Row", name := "fill", desc := "(I)V" } : Jvm.MethodName)) ∈ WG := wg_2 (List.mem_of_getElem? (i := 204) (by decide +kernel)) (by decide +kernel)
theorem dX0_clear_8 : decode cX0_clear 8 = .ok (.return_, 1) := by decide +kernel
set_option maxRecDepth 100000 in
set_option maxHeartbeats 400000 in
theorem c_X6_init {l : Launch} {D : va_G} {k : Nat → ClassId} (pp : Nat) (h : Nat)  : CM l D k yX6_init cX6_init 2 none  2 33 [.ref pp, .ref h] [(pp, .inr (10, [.null, .null, .null, .int 0]))] (fun rv9 w9 => rv9 = none ∧ ∃ (r1 : Nat) (a1 : Nat) (r2 : Nat) (a2 : Nat), w9 = [(pp, .inr (10, [.ref h, .ref r1, .ref r2, .int 0])), (r1, .inr (12, [.ref a1])), (a1, aI k 6 (fun _ => 0)), (r2, .inr (12, [.ref a2])), (a2, aI k 6 (fun _ => 0))]) 4 14 4 := by
  refine CM.of (lv0 := [(0, .ref pp), (1, .ref h)]) (by decide +kernel) (Nat.le_of_ble_eq_true rfl) rfl ?_
  intro p e s m below meth c C hr hlk hin had
  refine g_aload_n (pc := 0) C 0 rfl rfl dX6_init_0 ?_
  refine g_obj (pc := 1) C q_28 q_2 q_3 (Nat.le_of_ble_eq_true rfl) (Nat.le_of_ble_eq_true rfl) dX6_init_1 ?_
  refine g_aload_n (pc := 4) C 0 rfl rfl dX6_init_4 ?_
  refine g_new (pc := 5) (ci := 12) (cells := 0) (slots := 0) (g := 0) C [.null] (T := TX8) inX8 tyX8 tyX8_ok q_30 q_29 q_6 rfl (fun j hj => by rcases (show j = 0 by omega) with rfl <;> rfl) (Nat.le_of_ble_eq_true rfl) (Nat.le_of_ble_eq_true rfl) dX6_init_5 (fun q1 => ?_)
  refine G.eqw (ws' := [(pp, .inr (10, [.null, .null, .null, .int 0])), (q1, .inr (12, [.null]))]) rfl ?_
  refine g_dup (pc := 8) C rfl dX6_init_8 ?_
  refine g_bipush (pc := 9) (v := 6) C (by decide) dX6_init_9 ?_
  refine g_callI (pc := 11) (cells := 1) (slots := 1) (g := 1) (As := [.int 6]) (st := [.ref q1, .ref pp]) C (nA := 1) rfl (c_X8_init_6 q1 ) q_32 q_33 q_6 q_31 rfl rfl (by decide +kernel) dX6_init_11 ⟨Nat.le_of_ble_eq_true rfl, Nat.le_of_ble_eq_true rfl⟩ [1] [0] rfl (wr := [(pp, .inr (10, [.null, .null, .null, .int 0]))]) rfl (by decide) (by decide) (by decide) (Nat.le_of_ble_eq_true rfl) ⟨Nat.le_of_ble_eq_true rfl, Nat.le_of_ble_eq_true rfl⟩ (fun rv w1 h1 => ?_)
  obtain ⟨rfl, q2, rfl⟩ := h1
  refine G.aft [0, 1, 2] (ws' := [(pp, .inr (10, [.null, .null, .null, .int 0])), (q1, .inr (12, [.ref q2])), (q2, aI k 6 (fun _ => 0))]) (st' := [.ref q1, .ref pp]) (cells' := 2) (slots' := 7) (g' := 2) (by decide) rfl rfl rfl rfl rfl ?_
  refine g_putF (pc := 14) C (T := TX6) inX6 0 rfl rfl 1 (by decide) q_34 rfl tyX6 tyX6_ok nmX6 rfl hin rfl [(pp, .inr (10, [.null, .ref q1, .null, .int 0])), (q1, .inr (12, [.ref q2])), (q2, aI k 6 (fun _ => 0))] (tyX6_ok 1 (by decide)) rfl rfl (Nat.le_of_ble_eq_true rfl) rfl dX6_init_14 ?_
  refine g_aload_n (pc := 17) C 0 rfl rfl dX6_init_17 ?_
  refine g_new (pc := 18) (ci := 12) (cells := 2) (slots := 7) (g := 2) C [.null] (T := TX8) inX8 tyX8 tyX8_ok q_30 q_29 q_6 rfl (fun j hj => by rcases (show j = 0 by omega) with rfl <;> rfl) (Nat.le_of_ble_eq_true rfl) (Nat.le_of_ble_eq_true rfl) dX6_init_18 (fun q3 => ?_)
  refine G.eqw (ws' := [(pp, .inr (10, [.null, .ref q1, .null, .int 0])), (q1, .inr (12, [.ref q2])), (q2, aI k 6 (fun _ => 0)), (q3, .inr (12, [.null]))]) rfl ?_
  refine g_dup (pc := 21) C rfl dX6_init_21 ?_
  refine g_bipush (pc := 22) (v := 6) C (by decide) dX6_init_22 ?_
  refine g_callI (pc := 24) (cells := 3) (slots := 8) (g := 3) (As := [.int 6]) (st := [.ref q3, .ref pp]) C (nA := 1) rfl (c_X8_init_6 q3 ) q_32 q_33 q_6 q_31 rfl rfl (by decide +kernel) dX6_init_24 ⟨Nat.le_of_ble_eq_true rfl, Nat.le_of_ble_eq_true rfl⟩ [3] [0, 1, 2] rfl (wr := [(pp, .inr (10, [.null, .ref q1, .null, .int 0])), (q1, .inr (12, [.ref q2])), (q2, aI k 6 (fun _ => 0))]) rfl (by decide) (by decide) (by decide) (Nat.le_of_ble_eq_true rfl) ⟨Nat.le_of_ble_eq_true rfl, Nat.le_of_ble_eq_true rfl⟩ (fun rv w1 h1 => ?_)
  obtain ⟨rfl, q4, rfl⟩ := h1
  refine G.aft [0, 1, 2, 3, 4] (ws' := [(pp, .inr (10, [.null, .ref q1, .null, .int 0])), (q1, .inr (12, [.ref q2])), (q2, aI k 6 (fun _ => 0)), (q3, .inr (12, [.ref q4])), (q4, aI k 6 (fun _ => 0))]) (st' := [.ref q3, .ref pp]) (cells' := 4) (slots' := 14) (g' := 4) (by decide) rfl rfl rfl rfl rfl ?_
  refine g_putF (pc := 27) C (T := TX6) inX6 0 rfl rfl 2 (by decide) q_35 rfl tyX6 tyX6_ok nmX6 rfl hin rfl [(pp, .inr (10, [.null, .ref q1, .ref q3, .int 0])), (q1, .inr (12, [.ref q2])), (q2, aI k 6 (fun _ => 0)), (q3, .inr (12, [.ref q4])), (q4, aI k 6 (fun _ => 0))] (tyX6_ok 2 (by decide)) rfl rfl (Nat.le_of_ble_eq_true rfl) rfl dX6_init_27 ?_
  refine g_aload_n (pc := 30) C 0 rfl rfl dX6_init_30 ?_
  refine g_iconst (pc := 31) (v := 0) C (by decide) dX6_init_31 ?_
  refine g_put (pc := 32) C (T := TX6) inX6 0 rfl rfl 3 (by decide) q_36 rfl tyX6 tyX6_ok nmX6 rfl [(pp, .inr (10, [.null, .ref q1, .ref q3, .int 0])), (q1, .inr (12, [.ref q2])), (q2, aI k 6 (fun _ => 0)), (q3, .inr (12, [.ref q4])), (q4, aI k 6 (fun _ => 0))] (tyX6_ok 3 (by decide)) rfl (by rfl) (Nat.le_of_ble_eq_true rfl) rfl dX6_init_32 ?_
  refine g_aload_n (pc := 35) C 0 rfl rfl dX6_init_35 ?_
  refine g_aload_n (pc := 36) C 1 rfl rfl dX6_init_36 ?_
  refine g_putF (pc := 37) C (T := TX6) inX6 0 rfl rfl 0 (by decide) q_37 rfl tyX6 tyX6_ok nmX6 rfl hin rfl [(pp, .inr (10, [.ref h, .ref q1, .ref q3, .int 0])), (q1, .inr (12, [.ref q2])), (q2, aI k 6 (fun _ => 0)), (q3, .inr (12, [.ref q4])), (q4, aI k 6 (fun _ => 0))] (tyX6_ok 0 (by decide)) rfl rfl (Nat.le_of_ble_eq_true rfl) rfl dX6_init_37 ?_
  exact g_vret (pc := 40) C hr hlk (by first | decide | omega) (by first | decide | omega) (by first | decide | omega) dX6_init_40 ⟨rfl, q1, q2, q3, q4, rfl⟩
set_option maxRecDepth 100000 in
set_option maxHeartbeats 400000 in
theorem c_X6_clear {l : Launch} {D : va_G} {k : Nat → ClassId} (h : Nat) (pp : Nat) (r1 : Nat) (a1 : Nat) (r2 : Nat) (a2 : Nat) (f : Nat → Int32) (ct : Nat → Int32) (tk : Int32)  : CM l D k yX6_clear cX6_clear 1 none  1 22 [.ref pp] [(pp, .inr (10, [.ref h, .ref r1, .ref r2, .int tk])), (r1, .inr (12, [.ref a1])), (a1, aI k 6 f), (r2, .inr (12, [.ref a2])), (a2, aI k 6 ct)] (is1 none [(pp, .inr (10, [.ref h, .ref r1, .ref r2, .int 0])), (r1, .inr (12, [.ref a1])), (a1, aI k 6 (fun _ => 0)), (r2, .inr (12, [.ref a2])), (a2, aI k 6 (fun _ => 0))]) 0 0 0 := by
  refine CM.of (lv0 := [(0, .ref pp)]) (by decide +kernel) (Nat.le_of_ble_eq_true rfl) rfl ?_
  intro p e s m below meth c C hr hlk hin had
  refine g_aload_n (pc := 0) C 0 rfl rfl dX6_clear_0 ?_
  refine g_get (pc := 1) C (T := TX6) inX6 0 rfl rfl 1 (by decide) q_34 rfl rfl dX6_clear_1 ?_
  refine g_iconst (pc := 4) (v := 0) C (by decide) dX6_clear_4 ?_
  refine g_callV (pc := 5) (cells := 0) (slots := 0) (g := 0) (As := [.int 0]) (st := []) (T := TX8) (q0 := 1) C (nA := 1) rfl (c_X8_fill r1 a1 6 f 0 (by first | assumption | decide | omega)) q_40 q_41 q_39 q_6 q_38 (by decide +kernel) rfl rfl dX6_clear_5 ⟨Nat.le_of_ble_eq_true rfl, Nat.le_of_ble_eq_true rfl⟩ [1, 2] [0, 3, 4] rfl (wr := [(pp, .inr (10, [.ref h, .ref r1, .ref r2, .int tk])), (r2, .inr (12, [.ref a2])), (a2, aI k 6 ct)]) rfl (by decide) (by decide) (by decide) (Nat.le_of_ble_eq_true rfl) ⟨Nat.le_of_ble_eq_true rfl, Nat.le_of_ble_eq_true rfl⟩ (fun rv w1 h1 => ?_)
  obtain ⟨rfl, rfl⟩ := h1
  refine G.aft [0, 3, 4, 1, 2] (ws' := [(pp, .inr (10, [.ref h, .ref r1, .ref r2, .int tk])), (r1, .inr (12, [.ref a1])), (a1, aI k 6 (fun _ => 0)), (r2, .inr (12, [.ref a2])), (a2, aI k 6 ct)]) (st' := []) (cells' := 0) (slots' := 0) (g' := 0) (by decide) rfl rfl rfl rfl rfl ?_
  refine g_aload_n (pc := 8) C 0 rfl rfl dX6_clear_8 ?_
  refine g_get (pc := 9) C (T := TX6) inX6 0 rfl rfl 2 (by decide) q_35 rfl rfl dX6_clear_9 ?_
  refine g_iconst (pc := 12) (v := 0) C (by decide) dX6_clear_12 ?_
  refine g_callV (pc := 13) (cells := 0) (slots := 0) (g := 0) (As := [.int 0]) (st := []) (T := TX8) (q0 := 3) C (nA := 1) rfl (c_X8_fill r2 a2 6 ct 0 (by first | assumption | decide | omega)) q_40 q_41 q_39 q_6 q_38 (by decide +kernel) rfl rfl dX6_clear_13 ⟨Nat.le_of_ble_eq_true rfl, Nat.le_of_ble_eq_true rfl⟩ [3, 4] [0, 1, 2] rfl (wr := [(pp, .inr (10, [.ref h, .ref r1, .ref r2, .int tk])), (r1, .inr (12, [.ref a1])), (a1, aI k 6 (fun _ => 0))]) rfl (by decide) (by decide) (by decide) (Nat.le_of_ble_eq_true rfl) ⟨Nat.le_of_ble_eq_true rfl, Nat.le_of_ble_eq_true rfl⟩ (fun rv w1 h1 => ?_)
  obtain ⟨rfl, rfl⟩ := h1
  refine G.aft [0, 1, 2, 3, 4] (ws' := [(pp, .inr (10, [.ref h, .ref r1, .ref r2, .int tk])), (r1, .inr (12, [.ref a1])), (a1, aI k 6 (fun _ => 0)), (r2, .inr (12, [.ref a2])), (a2, aI k 6 (fun _ => 0))]) (st' := []) (cells' := 0) (slots' := 0) (g' := 0) (by decide) rfl rfl rfl rfl rfl ?_
  refine g_aload_n (pc := 16) C 0 rfl rfl dX6_clear_16 ?_
  refine g_iconst (pc := 17) (v := 0) C (by decide) dX6_clear_17 ?_
  refine g_put (pc := 18) C (T := TX6) inX6 0 rfl rfl 3 (by decide) q_36 rfl tyX6 tyX6_ok nmX6 rfl [(pp, .inr (10, [.ref h, .ref r1, .ref r2, .int 0])), (r1, .inr (12, [.ref a1])), (a1, aI k 6 (fun _ => 0)), (r2, .inr (12, [.ref a2])), (a2, aI k 6 (fun _ => 0))] (tyX6_ok 3 (by decide)) rfl (by rfl) (Nat.le_of_ble_eq_true rfl) rfl dX6_clear_18 ?_
  exact g_vret (pc := 21) C hr hlk (by first | decide | omega) (by first | decide | omega) (by first | decide | omega) dX6_clear_21 ⟨rfl, rfl⟩
set_option maxRecDepth 100000 in
set_option maxHeartbeats 400000 in
theorem c_X6_copyChips {l : Launch} {D : va_G} {k : Nat → ClassId} (h : Nat) (pp : Nat) (r1 : Nat) (a1 : Nat) (r2 : Nat) (a2 : Nat) (f : Nat → Int32) (ct : Nat → Int32) (tk : Int32) (p2 : Nat) (r3 : Nat) (r4 : Nat) (a3 : Nat) (f2 : Nat → Int32) (tk2 : Int32)  : CM l D k yX6_copyChips cX6_copyChips 2 none  2 43 [.ref pp, .ref p2] [(pp, .inr (10, [.ref h, .ref r1, .ref r2, .int tk])), (r1, .inr (12, [.ref a1])), (a1, aI k 6 f), (r2, .inr (12, [.ref a2])), (a2, aI k 6 ct), (p2, .inr (10, [.ref h, .ref r3, .ref r4, .int tk2])), (r3, .inr (12, [.ref a3])), (a3, aI k 6 f2)] (is1 none [(pp, .inr (10, [.ref h, .ref r1, .ref r2, .int 0])), (r1, .inr (12, [.ref a1])), (a1, aI k 6 f2), (r2, .inr (12, [.ref a2])), (a2, aI k 6 (fun _ => 0)), (p2, .inr (10, [.ref h, .ref r3, .ref r4, .int tk2])), (r3, .inr (12, [.ref a3])), (a3, aI k 6 f2)]) 0 0 0 := by
  refine CM.of (lv0 := [(0, .ref pp), (1, .ref p2)]) (by decide +kernel) (Nat.le_of_ble_eq_true rfl) rfl ?_
  intro p e s m below meth c C hr hlk hin had
  refine g_aload_n (pc := 0) C 0 rfl rfl dX6_copyChips_0 ?_
  refine g_callV (pc := 1) (cells := 0) (slots := 0) (g := 0) (As := []) (st := []) (T := TX6) (q0 := 0) C (nA := 0) rfl (c_X6_clear h pp r1 a1 r2 a2 f ct tk ) q_45 q_46 q_44 q_43 q_42 (by decide +kernel) rfl rfl dX6_copyChips_1 ⟨Nat.le_of_ble_eq_true rfl, Nat.le_of_ble_eq_true rfl⟩ [0, 1, 2, 3, 4] [5, 6, 7] rfl (wr := [(p2, .inr (10, [.ref h, .ref r3, .ref r4, .int tk2])), (r3, .inr (12, [.ref a3])), (a3, aI k 6 f2)]) rfl (by decide) (by decide) (by decide) (Nat.le_of_ble_eq_true rfl) ⟨Nat.le_of_ble_eq_true rfl, Nat.le_of_ble_eq_true rfl⟩ (fun rv w1 h1 => ?_)
  obtain ⟨rfl, rfl⟩ := h1
  refine G.aft [3, 4, 5, 6, 7, 0, 1, 2] (ws' := [(pp, .inr (10, [.ref h, .ref r1, .ref r2, .int 0])), (r1, .inr (12, [.ref a1])), (a1, aI k 6 (fun _ => 0)), (r2, .inr (12, [.ref a2])), (a2, aI k 6 (fun _ => 0)), (p2, .inr (10, [.ref h, .ref r3, .ref r4, .int tk2])), (r3, .inr (12, [.ref a3])), (a3, aI k 6 f2)]) (st' := []) (cells' := 0) (slots' := 0) (g' := 0) (by decide) rfl rfl rfl rfl rfl ?_
  refine g_aload_n (pc := 4) C 0 rfl rfl dX6_copyChips_4 ?_
  refine g_get (pc := 5) C (T := TX6) inX6 0 rfl rfl 1 (by decide) q_34 rfl rfl dX6_copyChips_5 ?_
  refine g_aload_n (pc := 8) C 1 rfl rfl dX6_copyChips_8 ?_
  refine g_get (pc := 9) C (T := TX6) inX6 5 rfl rfl 1 (by decide) q_34 rfl rfl dX6_copyChips_9 ?_
  refine g_callV (pc := 12) (cells := 0) (slots := 0) (g := 0) (As := [.ref r3]) (st := []) (T := TX8) (q0 := 1) C (nA := 1) rfl (c_X8_copy r1 a1 6 (fun _ => 0) r3 a3 f2 (by first | assumption | decide | omega)) q_49 q_50 q_48 q_6 q_47 (by decide +kernel) rfl rfl dX6_copyChips_12 ⟨Nat.le_of_ble_eq_true rfl, Nat.le_of_ble_eq_true rfl⟩ [1, 2, 6, 7] [0, 3, 4, 5] rfl (wr := [(pp, .inr (10, [.ref h, .ref r1, .ref r2, .int 0])), (r2, .inr (12, [.ref a2])), (a2, aI k 6 (fun _ => 0)), (p2, .inr (10, [.ref h, .ref r3, .ref r4, .int tk2]))]) rfl (by decide) (by decide) (by decide) (Nat.le_of_ble_eq_true rfl) ⟨Nat.le_of_ble_eq_true rfl, Nat.le_of_ble_eq_true rfl⟩ (fun rv w1 h1 => ?_)
  obtain ⟨rfl, rfl⟩ := h1
  refine G.aft [0, 4, 5, 1, 2, 3, 6, 7] (ws' := [(pp, .inr (10, [.ref h, .ref r1, .ref r2, .int 0])), (r1, .inr (12, [.ref a1])), (a1, aI k 6 f2), (r2, .inr (12, [.ref a2])), (a2, aI k 6 (fun _ => 0)), (p2, .inr (10, [.ref h, .ref r3, .ref r4, .int tk2])), (r3, .inr (12, [.ref a3])), (a3, aI k 6 f2)]) (st' := []) (cells' := 0) (slots' := 0) (g' := 0) (by decide) rfl rfl rfl rfl rfl ?_
  exact g_vret (pc := 15) C hr hlk (by first | decide | omega) (by first | decide | omega) (by first | decide | omega) dX6_copyChips_15 ⟨rfl, rfl⟩
set_option maxRecDepth 100000 in
set_option maxHeartbeats 400000 in
theorem c_X6_at {l : Launch} {D : va_G} {k : Nat → ClassId} (h : Nat) (pp : Nat) (r1 : Nat) (a1 : Nat) (r2 : Nat) (a2 : Nat) (f : Nat → Int32) (ct : Nat → Int32) (tk : Int32) (v : Nat) (hv : v < 6) : CM l D k yX6_at cX6_at 2 (some .int)  1 21 [.ref pp, .int (nI v)] [(pp, .inr (10, [.ref h, .ref r1, .ref r2, .int tk])), (r1, .inr (12, [.ref a1])), (a1, aI k 6 f), (r2, .inr (12, [.ref a2])), (a2, aI k 6 ct)] (is1 (some (.int (f v))) [(pp, .inr (10, [.ref h, .ref r1, .ref r2, .int tk])), (r1, .inr (12, [.ref a1])), (a1, aI k 6 f), (r2, .inr (12, [.ref a2])), (a2, aI k 6 ct)]) 0 0 0 := by
  refine CM.of (lv0 := [(0, .ref pp), (1, .int (nI v))]) (by decide +kernel) (Nat.le_of_ble_eq_true rfl) rfl ?_
  intro p e s m below meth c C hr hlk hin had
  refine g_aload_n (pc := 0) C 0 rfl rfl dX6_at_0 ?_
  refine g_get (pc := 1) C (T := TX6) inX6 0 rfl rfl 1 (by decide) q_34 rfl rfl dX6_at_1 ?_
  refine g_iload_n (pc := 4) C 1 rfl rfl dX6_at_4 ?_
  refine g_callV (pc := 5) (cells := 0) (slots := 0) (g := 0) (As := [.int (nI v)]) (st := []) (T := TX8) (q0 := 1) C (nA := 1) rfl (c_X8_at_n r1 a1 6 f v (by first | assumption | decide | omega) (by first | assumption | decide | omega)) q_51 q_9 q_7 q_6 q_5 (by decide +kernel) rfl rfl dX6_at_5 ⟨Nat.le_of_ble_eq_true rfl, Nat.le_of_ble_eq_true rfl⟩ [1, 2] [0, 3, 4] rfl (wr := [(pp, .inr (10, [.ref h, .ref r1, .ref r2, .int tk])), (r2, .inr (12, [.ref a2])), (a2, aI k 6 ct)]) rfl (by decide) (by decide) (by decide) (Nat.le_of_ble_eq_true rfl) ⟨Nat.le_of_ble_eq_true rfl, Nat.le_of_ble_eq_true rfl⟩ (fun rv w1 h1 => ?_)
  obtain ⟨rfl, rfl⟩ := h1
  refine G.aft [0, 3, 4, 1, 2] (ws' := [(pp, .inr (10, [.ref h, .ref r1, .ref r2, .int tk])), (r1, .inr (12, [.ref a1])), (a1, aI k 6 f), (r2, .inr (12, [.ref a2])), (a2, aI k 6 ct)]) (st' := [.int (f v)]) (cells' := 0) (slots' := 0) (g' := 0) (by decide) rfl rfl rfl rfl rfl ?_
  exact g_iret (pc := 8) C hr hlk (by first | decide | omega) (by first | decide | omega) (by first | decide | omega) dX6_at_8 ⟨rfl, rfl⟩
set_option maxRecDepth 100000 in
set_option maxHeartbeats 400000 in
theorem c_X6_receive {l : Launch} {D : va_G} {k : Nat → ClassId} (h : Nat) (jj : Nat) (dd : Nat) (n : Nat) (z : Nat) (fj : Nat → Int32) (fd : Nat → Int32) (pp : Nat) (r1 : Nat) (a1 : Nat) (r2 : Nat) (a2 : Nat) (f : Nat → Int32) (ct : Nat → Int32) (tk : Int32) (v : Nat) (x : Int32) (hv : v < 6) (hz : z < 6) : CM l D k yX6_receive cX6_receive 3 none  1 22 [.ref pp, .int (nI v), .int x] [(h, .inr (7, [.ref jj, .ref dd, .int (nI n), .int (nI z)])), (jj, aI k 36 fj), (dd, aI k 6 fd), (pp, .inr (10, [.ref h, .ref r1, .ref r2, .int tk])), (r1, .inr (12, [.ref a1])), (a1, aI k 6 f), (r2, .inr (12, [.ref a2])), (a2, aI k 6 ct)] (is1 none [(h, .inr (7, [.ref jj, .ref dd, .int (nI n), .int (nI z)])), (jj, aI k 36 fj), (dd, aI k 6 fd), (pp, .inr (10, [.ref h, .ref r1, .ref r2, .int (if v = z then tk + x else tk)])), (r1, .inr (12, [.ref a1])), (a1, aI k 6 (if v = z then f else upd f v (f v + x))), (r2, .inr (12, [.ref a2])), (a2, aI k 6 ct)]) 0 0 0 := by
  refine CM.of (lv0 := [(0, .ref pp), (1, .int (nI v)), (2, .int x)]) (by decide +kernel) (Nat.le_of_ble_eq_true rfl) rfl ?_
  intro p e s m below meth c C hr hlk hin had
  refine g_aload_n (pc := 0) C 0 rfl rfl dX6_receive_0 ?_
  refine g_get (pc := 1) C (T := TX6) inX6 3 rfl rfl 0 (by decide) q_37 rfl rfl dX6_receive_1 ?_
  refine g_iload_n (pc := 4) C 1 rfl rfl dX6_receive_4 ?_
  refine g_callV (pc := 5) (cells := 0) (slots := 0) (g := 0) (As := [.int (nI v)]) (st := []) (T := TX3) (q0 := 0) C (nA := 1) rfl (c_X3_isSink h jj dd n z fj fd v (by first | assumption | decide | omega) (by first | assumption | decide | omega)) q_54 q_55 q_53 q_16 q_52 (by decide +kernel) rfl rfl dX6_receive_5 ⟨Nat.le_of_ble_eq_true rfl, Nat.le_of_ble_eq_true rfl⟩ [0, 1, 2] [3, 4, 5, 6, 7] rfl (wr := [(pp, .inr (10, [.ref h, .ref r1, .ref r2, .int tk])), (r1, .inr (12, [.ref a1])), (a1, aI k 6 f), (r2, .inr (12, [.ref a2])), (a2, aI k 6 ct)]) rfl (by decide) (by decide) (by decide) (Nat.le_of_ble_eq_true rfl) ⟨Nat.le_of_ble_eq_true rfl, Nat.le_of_ble_eq_true rfl⟩ (fun rv w1 h1 => ?_)
  obtain ⟨rfl, rfl⟩ := h1
  refine G.aft [5, 6, 7, 0, 1, 2, 3, 4] (ws' := [(h, .inr (7, [.ref jj, .ref dd, .int (nI n), .int (nI z)])), (jj, aI k 36 fj), (dd, aI k 6 fd), (pp, .inr (10, [.ref h, .ref r1, .ref r2, .int tk])), (r1, .inr (12, [.ref a1])), (a1, aI k 6 f), (r2, .inr (12, [.ref a2])), (a2, aI k 6 ct)]) (st' := [.int (bI (decide (v = z)))]) (cells' := 0) (slots' := 0) (g' := 0) (by decide) rfl rfl rfl rfl rfl ?_
  refine g_if_eq (pc := 8) C 24 (by decide) dX6_receive_8 (fun c_8 => ?_) (fun c_8 => ?_)
  · simp only [bI_0, decide_eq_false_iff_not, decide_eq_true_eq, Bool.not_eq_false, Decidable.not_not] at c_8
    refine g_aload_n (pc := 24) C 0 rfl rfl dX6_receive_24 ?_
    refine g_get (pc := 25) C (T := TX6) inX6 3 rfl rfl 1 (by decide) q_34 rfl rfl dX6_receive_25 ?_
    refine g_iload_n (pc := 28) C 1 rfl rfl dX6_receive_28 ?_
    refine g_iload_n (pc := 29) C 2 rfl rfl dX6_receive_29 ?_
    refine g_callV (pc := 30) (cells := 0) (slots := 0) (g := 0) (As := [.int (nI v), .int x]) (st := []) (T := TX8) (q0 := 4) C (nA := 2) rfl (c_X8_add_n r1 a1 6 f v x (by first | assumption | decide | omega) (by first | assumption | decide | omega)) q_58 q_59 q_57 q_6 q_56 (by decide +kernel) rfl rfl dX6_receive_30 ⟨Nat.le_of_ble_eq_true rfl, Nat.le_of_ble_eq_true rfl⟩ [4, 5] [0, 1, 2, 3, 6, 7] rfl (wr := [(h, .inr (7, [.ref jj, .ref dd, .int (nI n), .int (nI z)])), (jj, aI k 36 fj), (dd, aI k 6 fd), (pp, .inr (10, [.ref h, .ref r1, .ref r2, .int tk])), (r2, .inr (12, [.ref a2])), (a2, aI k 6 ct)]) rfl (by decide) (by decide) (by decide) (Nat.le_of_ble_eq_true rfl) ⟨Nat.le_of_ble_eq_true rfl, Nat.le_of_ble_eq_true rfl⟩ (fun rv w1 h1 => ?_)
    obtain ⟨rfl, rfl⟩ := h1
    refine G.aft [0, 1, 2, 3, 6, 7, 4, 5] (ws' := [(h, .inr (7, [.ref jj, .ref dd, .int (nI n), .int (nI z)])), (jj, aI k 36 fj), (dd, aI k 6 fd), (pp, .inr (10, [.ref h, .ref r1, .ref r2, .int tk])), (r1, .inr (12, [.ref a1])), (a1, aI k 6 (upd f v (f v + x))), (r2, .inr (12, [.ref a2])), (a2, aI k 6 ct)]) (st' := []) (cells' := 0) (slots' := 0) (g' := 0) (by decide) rfl rfl rfl rfl rfl ?_
    refine G.eqw (ws' := [(h, .inr (7, [.ref jj, .ref dd, .int (nI n), .int (nI z)])), (jj, aI k 36 fj), (dd, aI k 6 fd), (pp, .inr (10, [.ref h, .ref r1, .ref r2, .int (if v = z then tk + x else tk)])), (r1, .inr (12, [.ref a1])), (a1, aI k 6 (upd f v (f v + x))), (r2, .inr (12, [.ref a2])), (a2, aI k 6 ct)]) (congrArg (β := va_W) (fun z9 => [(h, .inr (7, [.ref jj, .ref dd, .int (nI n), .int (nI z)])), (jj, aI k 36 fj), (dd, aI k 6 fd), (pp, .inr (10, [.ref h, .ref r1, .ref r2, .int z9])), (r1, .inr (12, [.ref a1])), (a1, aI k 6 (upd f v (f v + x))), (r2, .inr (12, [.ref a2])), (a2, aI k 6 ct)]) (show (tk : Int32) = (if v = z then tk + x else tk) from by simp [c_8])) ?_
    refine G.fn (if v = z then f else upd f v (f v + x)) 5 [(h, .inr (7, [.ref jj, .ref dd, .int (nI n), .int (nI z)])), (jj, aI k 36 fj), (dd, aI k 6 fd), (pp, .inr (10, [.ref h, .ref r1, .ref r2, .int (if v = z then tk + x else tk)])), (r1, .inr (12, [.ref a1])), (a1, aI k 6 (if v = z then f else upd f v (f v + x))), (r2, .inr (12, [.ref a2])), (a2, aI k 6 ct)] rfl (fun j hj => by simp [c_8]) rfl ?_
    exact g_vret (pc := 33) C hr hlk (by first | decide | omega) (by first | decide | omega) (by first | decide | omega) dX6_receive_33 ⟨rfl, rfl⟩
  · simp only [bI_0, decide_eq_false_iff_not, decide_eq_true_eq, Bool.not_eq_false, Decidable.not_not] at c_8
    refine g_aload_n (pc := 11) C 0 rfl rfl dX6_receive_11 ?_
    refine g_dup (pc := 12) C rfl dX6_receive_12 ?_
    refine g_get (pc := 13) C (T := TX6) inX6 3 rfl rfl 3 (by decide) q_36 rfl rfl dX6_receive_13 ?_
    refine g_iload_n (pc := 16) C 2 rfl rfl dX6_receive_16 ?_
    refine g_iadd (pc := 17) C dX6_receive_17 ?_
    refine g_put (pc := 18) C (T := TX6) inX6 3 rfl rfl 3 (by decide) q_36 rfl tyX6 tyX6_ok nmX6 rfl [(h, .inr (7, [.ref jj, .ref dd, .int (nI n), .int (nI z)])), (jj, aI k 36 fj), (dd, aI k 6 fd), (pp, .inr (10, [.ref h, .ref r1, .ref r2, .int (tk + x)])), (r1, .inr (12, [.ref a1])), (a1, aI k 6 f), (r2, .inr (12, [.ref a2])), (a2, aI k 6 ct)] (tyX6_ok 3 (by decide)) rfl (by rfl) (Nat.le_of_ble_eq_true rfl) rfl dX6_receive_18 ?_
    refine g_goto (pc := 21) C 33 (by decide) dX6_receive_21 ?_
    refine G.eqw (ws' := [(h, .inr (7, [.ref jj, .ref dd, .int (nI n), .int (nI z)])), (jj, aI k 36 fj), (dd, aI k 6 fd), (pp, .inr (10, [.ref h, .ref r1, .ref r2, .int (if v = z then tk + x else tk)])), (r1, .inr (12, [.ref a1])), (a1, aI k 6 f), (r2, .inr (12, [.ref a2])), (a2, aI k 6 ct)]) (congrArg (β := va_W) (fun z9 => [(h, .inr (7, [.ref jj, .ref dd, .int (nI n), .int (nI z)])), (jj, aI k 36 fj), (dd, aI k 6 fd), (pp, .inr (10, [.ref h, .ref r1, .ref r2, .int z9])), (r1, .inr (12, [.ref a1])), (a1, aI k 6 f), (r2, .inr (12, [.ref a2])), (a2, aI k 6 ct)]) (show ((tk + x) : Int32) = (if v = z then tk + x else tk) from by simp [c_8])) ?_
    refine G.fn (if v = z then f else upd f v (f v + x)) 5 [(h, .inr (7, [.ref jj, .ref dd, .int (nI n), .int (nI z)])), (jj, aI k 36 fj), (dd, aI k 6 fd), (pp, .inr (10, [.ref h, .ref r1, .ref r2, .int (if v = z then tk + x else tk)])), (r1, .inr (12, [.ref a1])), (a1, aI k 6 (if v = z then f else upd f v (f v + x))), (r2, .inr (12, [.ref a2])), (a2, aI k 6 ct)] rfl (fun j hj => by simp [c_8]) rfl ?_
    exact g_vret (pc := 33) C hr hlk (by first | decide | omega) (by first | decide | omega) (by first | decide | omega) dX6_receive_33 ⟨rfl, rfl⟩
set_option maxRecDepth 100000 in
set_option maxHeartbeats 400000 in
theorem c_X6_receive_o {l : Launch} {D : va_G} {k : Nat → ClassId} (h : Nat) (jj : Nat) (dd : Nat) (n : Nat) (z : Nat) (fj : Nat → Int32) (fd : Nat → Int32) (pp : Nat) (r1 : Nat) (a1 : Nat) (r2 : Nat) (a2 : Nat) (f : Nat → Int32) (ct : Nat → Int32) (tk : Int32) (v : Nat) (x : Int32) (hv : v < 6) (hz : z < 6) (hvz : ¬ v = z) : CM l D k yX6_receive cX6_receive 3 none  1 22 [.ref pp, .int (nI v), .int x] [(h, .inr (7, [.ref jj, .ref dd, .int (nI n), .int (nI z)])), (jj, aI k 36 fj), (dd, aI k 6 fd), (pp, .inr (10, [.ref h, .ref r1, .ref r2, .int tk])), (r1, .inr (12, [.ref a1])), (a1, aI k 6 f), (r2, .inr (12, [.ref a2])), (a2, aI k 6 ct)] (is1 none [(h, .inr (7, [.ref jj, .ref dd, .int (nI n), .int (nI z)])), (jj, aI k 36 fj), (dd, aI k 6 fd), (pp, .inr (10, [.ref h, .ref r1, .ref r2, .int tk])), (r1, .inr (12, [.ref a1])), (a1, aI k 6 (upd f v (f v + x))), (r2, .inr (12, [.ref a2])), (a2, aI k 6 ct)]) 0 0 0 := by
  refine CM.of (lv0 := [(0, .ref pp), (1, .int (nI v)), (2, .int x)]) (by decide +kernel) (Nat.le_of_ble_eq_true rfl) rfl ?_
  intro p e s m below meth c C hr hlk hin had
  refine g_aload_n (pc := 0) C 0 rfl rfl dX6_receive_0 ?_
  refine g_get (pc := 1) C (T := TX6) inX6 3 rfl rfl 0 (by decide) q_37 rfl rfl dX6_receive_1 ?_
  refine g_iload_n (pc := 4) C 1 rfl rfl dX6_receive_4 ?_
  refine g_callV (pc := 5) (cells := 0) (slots := 0) (g := 0) (As := [.int (nI v)]) (st := []) (T := TX3) (q0 := 0) C (nA := 1) rfl (c_X3_isSink h jj dd n z fj fd v (by first | assumption | decide | omega) (by first | assumption | decide | omega)) q_54 q_55 q_53 q_16 q_52 (by decide +kernel) rfl rfl dX6_receive_5 ⟨Nat.le_of_ble_eq_true rfl, Nat.le_of_ble_eq_true rfl⟩ [0, 1, 2] [3, 4, 5, 6, 7] rfl (wr := [(pp, .inr (10, [.ref h, .ref r1, .ref r2, .int tk])), (r1, .inr (12, [.ref a1])), (a1, aI k 6 f), (r2, .inr (12, [.ref a2])), (a2, aI k 6 ct)]) rfl (by decide) (by decide) (by decide) (Nat.le_of_ble_eq_true rfl) ⟨Nat.le_of_ble_eq_true rfl, Nat.le_of_ble_eq_true rfl⟩ (fun rv w1 h1 => ?_)
  obtain ⟨rfl, rfl⟩ := h1
  refine G.aft [5, 6, 7, 0, 1, 2, 3, 4] (ws' := [(h, .inr (7, [.ref jj, .ref dd, .int (nI n), .int (nI z)])), (jj, aI k 36 fj), (dd, aI k 6 fd), (pp, .inr (10, [.ref h, .ref r1, .ref r2, .int tk])), (r1, .inr (12, [.ref a1])), (a1, aI k 6 f), (r2, .inr (12, [.ref a2])), (a2, aI k 6 ct)]) (st' := [.int (bI (decide (v = z)))]) (cells' := 0) (slots' := 0) (g' := 0) (by decide) rfl rfl rfl rfl rfl ?_
  refine g_if_eq (pc := 8) C 24 (by decide) dX6_receive_8 (fun c_8 => ?_) (fun c_8 => ?_)
  · refine g_aload_n (pc := 24) C 0 rfl rfl dX6_receive_24 ?_
    refine g_get (pc := 25) C (T := TX6) inX6 3 rfl rfl 1 (by decide) q_34 rfl rfl dX6_receive_25 ?_
    refine g_iload_n (pc := 28) C 1 rfl rfl dX6_receive_28 ?_
    refine g_iload_n (pc := 29) C 2 rfl rfl dX6_receive_29 ?_
    refine g_callV (pc := 30) (cells := 0) (slots := 0) (g := 0) (As := [.int (nI v), .int x]) (st := []) (T := TX8) (q0 := 4) C (nA := 2) rfl (c_X8_add_n r1 a1 6 f v x (by first | assumption | decide | omega) (by first | assumption | decide | omega)) q_58 q_59 q_57 q_6 q_56 (by decide +kernel) rfl rfl dX6_receive_30 ⟨Nat.le_of_ble_eq_true rfl, Nat.le_of_ble_eq_true rfl⟩ [4, 5] [0, 1, 2, 3, 6, 7] rfl (wr := [(h, .inr (7, [.ref jj, .ref dd, .int (nI n), .int (nI z)])), (jj, aI k 36 fj), (dd, aI k 6 fd), (pp, .inr (10, [.ref h, .ref r1, .ref r2, .int tk])), (r2, .inr (12, [.ref a2])), (a2, aI k 6 ct)]) rfl (by decide) (by decide) (by decide) (Nat.le_of_ble_eq_true rfl) ⟨Nat.le_of_ble_eq_true rfl, Nat.le_of_ble_eq_true rfl⟩ (fun rv w1 h1 => ?_)
    obtain ⟨rfl, rfl⟩ := h1
    refine G.aft [0, 1, 2, 3, 6, 7, 4, 5] (ws' := [(h, .inr (7, [.ref jj, .ref dd, .int (nI n), .int (nI z)])), (jj, aI k 36 fj), (dd, aI k 6 fd), (pp, .inr (10, [.ref h, .ref r1, .ref r2, .int tk])), (r1, .inr (12, [.ref a1])), (a1, aI k 6 (upd f v (f v + x))), (r2, .inr (12, [.ref a2])), (a2, aI k 6 ct)]) (st' := []) (cells' := 0) (slots' := 0) (g' := 0) (by decide) rfl rfl rfl rfl rfl ?_
    exact g_vret (pc := 33) C hr hlk (by first | decide | omega) (by first | decide | omega) (by first | decide | omega) dX6_receive_33 ⟨rfl, rfl⟩
  · exact absurd (show bI (decide (v = z)) = 0 by simp [bI_0, hvz]) c_8
/-- whether a vertex can topple -/
def cTop (z : Nat) (fd f : Nat → Int32) (v : Nat) : Bool := decide (¬ v = z) && (decide (¬ fd v ≤ 0) && decide (¬ f v < fd v))
set_option maxRecDepth 100000 in
set_option maxHeartbeats 400000 in
theorem c_X6_canTopple {l : Launch} {D : va_G} {k : Nat → ClassId} (h : Nat) (jj : Nat) (dd : Nat) (n : Nat) (z : Nat) (fj : Nat → Int32) (fd : Nat → Int32) (pp : Nat) (r1 : Nat) (a1 : Nat) (r2 : Nat) (a2 : Nat) (f : Nat → Int32) (ct : Nat → Int32) (tk : Int32) (v : Nat) (hv : v < 6) (hz : z < 6) : CM l D k yX6_canTopple cX6_canTopple 3 (some .boolean)  1 21 [.ref pp, .int (nI v)] [(h, .inr (7, [.ref jj, .ref dd, .int (nI n), .int (nI z)])), (jj, aI k 36 fj), (dd, aI k 6 fd), (pp, .inr (10, [.ref h, .ref r1, .ref r2, .int tk])), (r1, .inr (12, [.ref a1])), (a1, aI k 6 f), (r2, .inr (12, [.ref a2])), (a2, aI k 6 ct)] (is1 (some (.int (bI (cTop z fd f v)))) [(h, .inr (7, [.ref jj, .ref dd, .int (nI n), .int (nI z)])), (jj, aI k 36 fj), (dd, aI k 6 fd), (pp, .inr (10, [.ref h, .ref r1, .ref r2, .int tk])), (r1, .inr (12, [.ref a1])), (a1, aI k 6 f), (r2, .inr (12, [.ref a2])), (a2, aI k 6 ct)]) 0 0 0 := by
  refine CM.of (lv0 := [(0, .ref pp), (1, .int (nI v))]) (by decide +kernel) (Nat.le_of_ble_eq_true rfl) rfl ?_
  intro p e s m below meth c C hr hlk hin had
  refine g_aload_n (pc := 0) C 0 rfl rfl dX6_canTopple_0 ?_
  refine g_get (pc := 1) C (T := TX6) inX6 3 rfl rfl 0 (by decide) q_37 rfl rfl dX6_canTopple_1 ?_
  refine g_iload_n (pc := 4) C 1 rfl rfl dX6_canTopple_4 ?_
  refine g_callV (pc := 5) (cells := 0) (slots := 0) (g := 0) (As := [.int (nI v)]) (st := []) (T := TX3) (q0 := 0) C (nA := 1) rfl (c_X3_degreeOf h jj dd n z fj fd v (by first | assumption | decide | omega)) q_62 q_63 q_61 q_16 q_60 (by decide +kernel) rfl rfl dX6_canTopple_5 ⟨Nat.le_of_ble_eq_true rfl, Nat.le_of_ble_eq_true rfl⟩ [0, 1, 2] [3, 4, 5, 6, 7] rfl (wr := [(pp, .inr (10, [.ref h, .ref r1, .ref r2, .int tk])), (r1, .inr (12, [.ref a1])), (a1, aI k 6 f), (r2, .inr (12, [.ref a2])), (a2, aI k 6 ct)]) rfl (by decide) (by decide) (by decide) (Nat.le_of_ble_eq_true rfl) ⟨Nat.le_of_ble_eq_true rfl, Nat.le_of_ble_eq_true rfl⟩ (fun rv w1 h1 => ?_)
  obtain ⟨rfl, rfl⟩ := h1
  refine G.aft [5, 6, 7, 0, 1, 2, 3, 4] (ws' := [(h, .inr (7, [.ref jj, .ref dd, .int (nI n), .int (nI z)])), (jj, aI k 36 fj), (dd, aI k 6 fd), (pp, .inr (10, [.ref h, .ref r1, .ref r2, .int tk])), (r1, .inr (12, [.ref a1])), (a1, aI k 6 f), (r2, .inr (12, [.ref a2])), (a2, aI k 6 ct)]) (st' := [.int (fd v)]) (cells' := 0) (slots' := 0) (g' := 0) (by decide) rfl rfl rfl rfl rfl ?_
  refine g_istore_n (pc := 8) C [(2, .int (fd v)), (0, .ref pp), (1, .int (nI v))] rfl dX6_canTopple_8 (by decide) rfl ?_
  refine g_aload_n (pc := 9) C 1 rfl rfl dX6_canTopple_9 ?_
  refine g_get (pc := 10) C (T := TX6) inX6 3 rfl rfl 0 (by decide) q_37 rfl rfl dX6_canTopple_10 ?_
  refine g_iload_n (pc := 13) C 2 rfl rfl dX6_canTopple_13 ?_
  refine g_callV (pc := 14) (cells := 0) (slots := 0) (g := 0) (As := [.int (nI v)]) (st := []) (T := TX3) (q0 := 0) C (nA := 1) rfl (c_X3_isSink h jj dd n z fj fd v (by first | assumption | decide | omega) (by first | assumption | decide | omega)) q_54 q_55 q_53 q_16 q_52 (by decide +kernel) rfl rfl dX6_canTopple_14 ⟨Nat.le_of_ble_eq_true rfl, Nat.le_of_ble_eq_true rfl⟩ [0, 1, 2] [3, 4, 5, 6, 7] rfl (wr := [(pp, .inr (10, [.ref h, .ref r1, .ref r2, .int tk])), (r1, .inr (12, [.ref a1])), (a1, aI k 6 f), (r2, .inr (12, [.ref a2])), (a2, aI k 6 ct)]) rfl (by decide) (by decide) (by decide) (Nat.le_of_ble_eq_true rfl) ⟨Nat.le_of_ble_eq_true rfl, Nat.le_of_ble_eq_true rfl⟩ (fun rv w1 h1 => ?_)
  obtain ⟨rfl, rfl⟩ := h1
  refine G.aft [5, 6, 7, 0, 1, 2, 3, 4] (ws' := [(h, .inr (7, [.ref jj, .ref dd, .int (nI n), .int (nI z)])), (jj, aI k 36 fj), (dd, aI k 6 fd), (pp, .inr (10, [.ref h, .ref r1, .ref r2, .int tk])), (r1, .inr (12, [.ref a1])), (a1, aI k 6 f), (r2, .inr (12, [.ref a2])), (a2, aI k 6 ct)]) (st' := [.int (bI (decide (v = z)))]) (cells' := 0) (slots' := 0) (g' := 0) (by decide) rfl rfl rfl rfl rfl ?_
  refine g_if_ne (pc := 17) C 40 (by decide) dX6_canTopple_17 (fun c_17 => ?_) (fun c_17 => ?_)
  · simp only [bI_0, decide_eq_false_iff_not, decide_eq_true_eq, Bool.not_eq_false, Decidable.not_not] at c_17
    refine g_iconst (pc := 40) (v := 0) C (by decide) dX6_canTopple_40 ?_
    refine G.eqs (st' := [.int (bI (cTop z fd f v))]) (congrArg (fun z9 => [Value.int z9]) (show (0 : Int32) = (bI (cTop z fd f v)) from by simp [cTop, bI, *])) ?_
    exact g_zret (pc := 41) C hr (by first | rfl | exact bI_nar _) hlk (by first | decide | omega) (by first | decide | omega) (by first | decide | omega) dX6_canTopple_41 ⟨rfl, rfl⟩
  · simp only [bI_0, decide_eq_false_iff_not, decide_eq_true_eq, Bool.not_eq_false, Decidable.not_not] at c_17
    refine g_iload_n (pc := 20) C 0 rfl rfl dX6_canTopple_20 ?_
    refine g_if_le (pc := 21) C 40 (by decide) dX6_canTopple_21 (fun c_21 => ?_) (fun c_21 => ?_)
    · refine g_iconst (pc := 40) (v := 0) C (by decide) dX6_canTopple_40 ?_
      refine G.eqs (st' := [.int (bI (cTop z fd f v))]) (congrArg (fun z9 => [Value.int z9]) (show (0 : Int32) = (bI (cTop z fd f v)) from by simp [cTop, bI, *])) ?_
      exact g_zret (pc := 41) C hr (by first | rfl | exact bI_nar _) hlk (by first | decide | omega) (by first | decide | omega) (by first | decide | omega) dX6_canTopple_41 ⟨rfl, rfl⟩
    · refine g_aload_n (pc := 24) C 1 rfl rfl dX6_canTopple_24 ?_
      refine g_get (pc := 25) C (T := TX6) inX6 3 rfl rfl 1 (by decide) q_34 rfl rfl dX6_canTopple_25 ?_
      refine g_iload_n (pc := 28) C 2 rfl rfl dX6_canTopple_28 ?_
      refine g_callV (pc := 29) (cells := 0) (slots := 0) (g := 0) (As := [.int (nI v)]) (st := []) (T := TX8) (q0 := 4) C (nA := 1) rfl (c_X8_at_n r1 a1 6 f v (by first | assumption | decide | omega) (by first | assumption | decide | omega)) q_51 q_9 q_7 q_6 q_5 (by decide +kernel) rfl rfl dX6_canTopple_29 ⟨Nat.le_of_ble_eq_true rfl, Nat.le_of_ble_eq_true rfl⟩ [4, 5] [0, 1, 2, 3, 6, 7] rfl (wr := [(h, .inr (7, [.ref jj, .ref dd, .int (nI n), .int (nI z)])), (jj, aI k 36 fj), (dd, aI k 6 fd), (pp, .inr (10, [.ref h, .ref r1, .ref r2, .int tk])), (r2, .inr (12, [.ref a2])), (a2, aI k 6 ct)]) rfl (by decide) (by decide) (by decide) (Nat.le_of_ble_eq_true rfl) ⟨Nat.le_of_ble_eq_true rfl, Nat.le_of_ble_eq_true rfl⟩ (fun rv w1 h1 => ?_)
      obtain ⟨rfl, rfl⟩ := h1
      refine G.aft [0, 1, 2, 3, 6, 7, 4, 5] (ws' := [(h, .inr (7, [.ref jj, .ref dd, .int (nI n), .int (nI z)])), (jj, aI k 36 fj), (dd, aI k 6 fd), (pp, .inr (10, [.ref h, .ref r1, .ref r2, .int tk])), (r1, .inr (12, [.ref a1])), (a1, aI k 6 f), (r2, .inr (12, [.ref a2])), (a2, aI k 6 ct)]) (st' := [.int (f v)]) (cells' := 0) (slots' := 0) (g' := 0) (by decide) rfl rfl rfl rfl rfl ?_
      refine g_iload_n (pc := 32) C 0 rfl rfl dX6_canTopple_32 ?_
      refine g_icmp_lt (pc := 33) C 40 (by decide) dX6_canTopple_33 (fun c_33 => ?_) (fun c_33 => ?_)
      · refine g_iconst (pc := 40) (v := 0) C (by decide) dX6_canTopple_40 ?_
        refine G.eqs (st' := [.int (bI (cTop z fd f v))]) (congrArg (fun z9 => [Value.int z9]) (show (0 : Int32) = (bI (cTop z fd f v)) from by simp [cTop, bI, *])) ?_
        exact g_zret (pc := 41) C hr (by first | rfl | exact bI_nar _) hlk (by first | decide | omega) (by first | decide | omega) (by first | decide | omega) dX6_canTopple_41 ⟨rfl, rfl⟩
      · refine g_iconst (pc := 36) (v := 1) C (by decide) dX6_canTopple_36 ?_
        refine g_goto (pc := 37) C 41 (by decide) dX6_canTopple_37 ?_
        refine G.eqs (st' := [.int (bI (cTop z fd f v))]) (congrArg (fun z9 => [Value.int z9]) (show (1 : Int32) = (bI (cTop z fd f v)) from by simp [cTop, bI, *])) ?_
        exact g_zret (pc := 41) C hr (by first | rfl | exact bI_nar _) hlk (by first | decide | omega) (by first | decide | omega) (by first | decide | omega) dX6_canTopple_41 ⟨rfl, rfl⟩
/-- what a toppling vertex sends, vertex by vertex: to the others, to the sink -/
def tpF (z : Nat) (fj : Nat → Int32) (x : Int32) (v : Nat) (f : Nat → Int32) : Nat → (Nat → Int32)
  | 0 => f
  | w + 1 => if w = z then tpF z fj x v f w else upd (tpF z fj x v f w) w (tpF z fj x v f w w + x * fj (v * 6 + w))
def tpT (z : Nat) (fj : Nat → Int32) (x : Int32) (v : Nat) (tk : Int32) : Nat → Int32
  | 0 => tk
  | w + 1 => if w = z then tpT z fj x v tk w + x * fj (v * 6 + w) else tpT z fj x v tk w
set_option maxRecDepth 100000 in
set_option maxHeartbeats 400000 in
theorem c_X6_toppleTimes {l : Launch} {D : va_G} {k : Nat → ClassId} (h : Nat) (jj : Nat) (dd : Nat) (n : Nat) (z : Nat) (fj : Nat → Int32) (fd : Nat → Int32) (pp : Nat) (r1 : Nat) (a1 : Nat) (r2 : Nat) (a2 : Nat) (f : Nat → Int32) (ct : Nat → Int32) (tk : Int32) (v : Nat) (x : Int32) (hn : n ≤ 6) (hv : v < n) (hz : z < 6) : CM l D k yX6_toppleTimes cX6_toppleTimes 5 none  1 23 [.ref pp, .int (nI v), .int x] [(h, .inr (7, [.ref jj, .ref dd, .int (nI n), .int (nI z)])), (jj, aI k 36 fj), (dd, aI k 6 fd), (pp, .inr (10, [.ref h, .ref r1, .ref r2, .int tk])), (r1, .inr (12, [.ref a1])), (a1, aI k 6 f), (r2, .inr (12, [.ref a2])), (a2, aI k 6 ct)] (is1 none [(h, .inr (7, [.ref jj, .ref dd, .int (nI n), .int (nI z)])), (jj, aI k 36 fj), (dd, aI k 6 fd), (pp, .inr (10, [.ref h, .ref r1, .ref r2, .int (tpT z fj x v tk n)])), (r1, .inr (12, [.ref a1])), (a1, aI k 6 (tpF z fj x v (upd f v (f v + (-x) * fd v)) n)), (r2, .inr (12, [.ref a2])), (a2, aI k 6 (upd ct v (ct v + x)))]) 0 0 0 := by
  refine CM.of (lv0 := [(0, .ref pp), (1, .int (nI v)), (2, .int x)]) (by decide +kernel) (Nat.le_of_ble_eq_true rfl) rfl ?_
  intro p e s m below meth c C hr hlk hin had
  refine g_aload_n (pc := 0) C 0 rfl rfl dX6_toppleTimes_0 ?_
  refine g_get (pc := 1) C (T := TX6) inX6 3 rfl rfl 1 (by decide) q_34 rfl rfl dX6_toppleTimes_1 ?_
  refine g_iload_n (pc := 4) C 1 rfl rfl dX6_toppleTimes_4 ?_
  refine g_iload_n (pc := 5) C 2 rfl rfl dX6_toppleTimes_5 ?_
  refine g_ineg (pc := 6) C dX6_toppleTimes_6 ?_
  refine g_aload_n (pc := 7) C 0 rfl rfl dX6_toppleTimes_7 ?_
  refine g_get (pc := 8) C (T := TX6) inX6 3 rfl rfl 0 (by decide) q_37 rfl rfl dX6_toppleTimes_8 ?_
  refine g_iload_n (pc := 11) C 1 rfl rfl dX6_toppleTimes_11 ?_
  refine g_callV (pc := 12) (cells := 0) (slots := 0) (g := 0) (As := [.int (nI v)]) (st := [.int (-x), .int (nI v), .ref r1]) (T := TX3) (q0 := 0) C (nA := 1) rfl (c_X3_degreeOf h jj dd n z fj fd v (by first | assumption | decide | omega)) q_62 q_63 q_61 q_16 q_60 (by decide +kernel) rfl rfl dX6_toppleTimes_12 ⟨Nat.le_of_ble_eq_true rfl, Nat.le_of_ble_eq_true rfl⟩ [0, 1, 2] [3, 4, 5, 6, 7] rfl (wr := [(pp, .inr (10, [.ref h, .ref r1, .ref r2, .int tk])), (r1, .inr (12, [.ref a1])), (a1, aI k 6 f), (r2, .inr (12, [.ref a2])), (a2, aI k 6 ct)]) rfl (by decide) (by decide) (by decide) (Nat.le_of_ble_eq_true rfl) ⟨Nat.le_of_ble_eq_true rfl, Nat.le_of_ble_eq_true rfl⟩ (fun rv w1 h1 => ?_)
  obtain ⟨rfl, rfl⟩ := h1
  refine G.aft [5, 6, 7, 0, 1, 2, 3, 4] (ws' := [(h, .inr (7, [.ref jj, .ref dd, .int (nI n), .int (nI z)])), (jj, aI k 36 fj), (dd, aI k 6 fd), (pp, .inr (10, [.ref h, .ref r1, .ref r2, .int tk])), (r1, .inr (12, [.ref a1])), (a1, aI k 6 f), (r2, .inr (12, [.ref a2])), (a2, aI k 6 ct)]) (st' := [.int (fd v), .int (-x), .int (nI v), .ref r1]) (cells' := 0) (slots' := 0) (g' := 0) (by decide) rfl rfl rfl rfl rfl ?_
  refine g_imul (pc := 15) C dX6_toppleTimes_15 ?_
  refine g_callV (pc := 16) (cells := 0) (slots := 0) (g := 0) (As := [.int (nI v), .int ((-x) * (fd v))]) (st := []) (T := TX8) (q0 := 4) C (nA := 2) rfl (c_X8_add_n r1 a1 6 f v ((-x) * (fd v)) (by first | assumption | decide | omega) (by first | assumption | decide | omega)) q_58 q_59 q_57 q_6 q_56 (by decide +kernel) rfl rfl dX6_toppleTimes_16 ⟨Nat.le_of_ble_eq_true rfl, Nat.le_of_ble_eq_true rfl⟩ [4, 5] [0, 1, 2, 3, 6, 7] rfl (wr := [(h, .inr (7, [.ref jj, .ref dd, .int (nI n), .int (nI z)])), (jj, aI k 36 fj), (dd, aI k 6 fd), (pp, .inr (10, [.ref h, .ref r1, .ref r2, .int tk])), (r2, .inr (12, [.ref a2])), (a2, aI k 6 ct)]) rfl (by decide) (by decide) (by decide) (Nat.le_of_ble_eq_true rfl) ⟨Nat.le_of_ble_eq_true rfl, Nat.le_of_ble_eq_true rfl⟩ (fun rv w1 h1 => ?_)
  obtain ⟨rfl, rfl⟩ := h1
  refine G.aft [0, 1, 2, 3, 6, 7, 4, 5] (ws' := [(h, .inr (7, [.ref jj, .ref dd, .int (nI n), .int (nI z)])), (jj, aI k 36 fj), (dd, aI k 6 fd), (pp, .inr (10, [.ref h, .ref r1, .ref r2, .int tk])), (r1, .inr (12, [.ref a1])), (a1, aI k 6 (upd f v (f v + ((-x) * (fd v))))), (r2, .inr (12, [.ref a2])), (a2, aI k 6 ct)]) (st' := []) (cells' := 0) (slots' := 0) (g' := 0) (by decide) rfl rfl rfl rfl rfl ?_
  refine g_aload_n (pc := 19) C 0 rfl rfl dX6_toppleTimes_19 ?_
  refine g_get (pc := 20) C (T := TX6) inX6 3 rfl rfl 2 (by decide) q_35 rfl rfl dX6_toppleTimes_20 ?_
  refine g_iload_n (pc := 23) C 1 rfl rfl dX6_toppleTimes_23 ?_
  refine g_iload_n (pc := 24) C 2 rfl rfl dX6_toppleTimes_24 ?_
  refine g_callV (pc := 25) (cells := 0) (slots := 0) (g := 0) (As := [.int (nI v), .int x]) (st := []) (T := TX8) (q0 := 6) C (nA := 2) rfl (c_X8_add_n r2 a2 6 ct v x (by first | assumption | decide | omega) (by first | assumption | decide | omega)) q_58 q_59 q_57 q_6 q_56 (by decide +kernel) rfl rfl dX6_toppleTimes_25 ⟨Nat.le_of_ble_eq_true rfl, Nat.le_of_ble_eq_true rfl⟩ [6, 7] [0, 1, 2, 3, 4, 5] rfl (wr := [(h, .inr (7, [.ref jj, .ref dd, .int (nI n), .int (nI z)])), (jj, aI k 36 fj), (dd, aI k 6 fd), (pp, .inr (10, [.ref h, .ref r1, .ref r2, .int tk])), (r1, .inr (12, [.ref a1])), (a1, aI k 6 (upd f v (f v + ((-x) * (fd v)))))]) rfl (by decide) (by decide) (by decide) (Nat.le_of_ble_eq_true rfl) ⟨Nat.le_of_ble_eq_true rfl, Nat.le_of_ble_eq_true rfl⟩ (fun rv w1 h1 => ?_)
  obtain ⟨rfl, rfl⟩ := h1
  refine G.aft [0, 1, 2, 3, 4, 5, 6, 7] (ws' := [(h, .inr (7, [.ref jj, .ref dd, .int (nI n), .int (nI z)])), (jj, aI k 36 fj), (dd, aI k 6 fd), (pp, .inr (10, [.ref h, .ref r1, .ref r2, .int tk])), (r1, .inr (12, [.ref a1])), (a1, aI k 6 (upd f v (f v + ((-x) * (fd v))))), (r2, .inr (12, [.ref a2])), (a2, aI k 6 (upd ct v (ct v + x)))]) (st' := []) (cells' := 0) (slots' := 0) (g' := 0) (by decide) rfl rfl rfl rfl rfl ?_
  refine g_iconst (pc := 28) (v := 0) C (by decide) dX6_toppleTimes_28 ?_
  refine g_istore_n (pc := 29) C [(3, .int 0), (0, .ref pp), (1, .int (nI v)), (2, .int x)] rfl dX6_toppleTimes_29 (by decide) rfl ?_
  have key_30 : ∀ (fuel : Nat) (w : Nat), w ≤ n → n - w < fuel → G p l e { frames := 1, cells := 0, slots := 0, locals := 23 } s m ([.ref pp, .int (nI v), .int x] : List Value).toArray below meth c D 5 (va_A [(h, .inr (7, [.ref jj, .ref dd, .int (nI n), .int (nI z)])), (jj, aI k 36 fj), (dd, aI k 6 fd), (pp, .inr (10, [.ref h, .ref r1, .ref r2, .int tk])), (r1, .inr (12, [.ref a1])), (a1, aI k 6 f), (r2, .inr (12, [.ref a2])), (a2, aI k 6 ct)] s.heap.size) (QM below D ([.ref pp, .int (nI v), .int x] : List Value).toArray s [(h, .inr (7, [.ref jj, .ref dd, .int (nI n), .int (nI z)])), (jj, aI k 36 fj), (dd, aI k 6 fd), (pp, .inr (10, [.ref h, .ref r1, .ref r2, .int tk])), (r1, .inr (12, [.ref a1])), (a1, aI k 6 f), (r2, .inr (12, [.ref a2])), (a2, aI k 6 ct)] (is1 none [(h, .inr (7, [.ref jj, .ref dd, .int (nI n), .int (nI z)])), (jj, aI k 36 fj), (dd, aI k 6 fd), (pp, .inr (10, [.ref h, .ref r1, .ref r2, .int (tpT z fj x v tk n)])), (r1, .inr (12, [.ref a1])), (a1, aI k 6 (tpF z fj x v (upd f v (f v + (-x) * fd v)) n)), (r2, .inr (12, [.ref a2])), (a2, aI k 6 (upd ct v (ct v + x)))]) 0 0 0) [(h, .inr (7, [.ref jj, .ref dd, .int (nI n), .int (nI z)])), (jj, aI k 36 fj), (dd, aI k 6 fd), (pp, .inr (10, [.ref h, .ref r1, .ref r2, .int (tpT z fj x v tk w)])), (r1, .inr (12, [.ref a1])), (a1, aI k 6 (tpF z fj x v (upd f v (f v + (-x) * fd v)) w)), (r2, .inr (12, [.ref a2])), (a2, aI k 6 (upd ct v (ct v + x)))] [(0, .ref pp), (1, .int (nI v)), (2, .int x), (3, .int (nI w))] 0 0 0 30 [] := by
    intro fuel
    induction fuel with
    | zero => intro w hw hm; exact absurd hm (Nat.not_lt_zero _)
    | succ fuel ih =>
      intro w hw hm
      have ih_30 := ih
      refine g_iload_n (pc := 30) C 3 rfl rfl dX6_toppleTimes_30 ?_
      refine g_aload_n (pc := 31) C 0 rfl rfl dX6_toppleTimes_31 ?_
      refine g_get (pc := 32) C (T := TX6) inX6 3 rfl rfl 0 (by decide) q_37 rfl rfl dX6_toppleTimes_32 ?_
      refine g_callV (pc := 35) (cells := 0) (slots := 0) (g := 0) (As := []) (st := [.int (nI w)]) (T := TX3) (q0 := 0) C (nA := 0) rfl (c_X3_size h jj dd n z fj fd ) q_66 q_67 q_65 q_16 q_64 (by decide +kernel) rfl rfl dX6_toppleTimes_35 ⟨Nat.le_of_ble_eq_true rfl, Nat.le_of_ble_eq_true rfl⟩ [0, 1, 2] [3, 4, 5, 6, 7] rfl (wr := [(pp, .inr (10, [.ref h, .ref r1, .ref r2, .int (tpT z fj x v tk w)])), (r1, .inr (12, [.ref a1])), (a1, aI k 6 (tpF z fj x v (upd f v (f v + (-x) * fd v)) w)), (r2, .inr (12, [.ref a2])), (a2, aI k 6 (upd ct v (ct v + x)))]) rfl (by decide) (by decide) (by decide) (Nat.le_of_ble_eq_true rfl) ⟨Nat.le_of_ble_eq_true rfl, Nat.le_of_ble_eq_true rfl⟩ (fun rv w1 h1 => ?_)
      obtain ⟨rfl, rfl⟩ := h1
      refine G.aft [5, 6, 7, 0, 1, 2, 3, 4] (ws' := [(h, .inr (7, [.ref jj, .ref dd, .int (nI n), .int (nI z)])), (jj, aI k 36 fj), (dd, aI k 6 fd), (pp, .inr (10, [.ref h, .ref r1, .ref r2, .int (tpT z fj x v tk w)])), (r1, .inr (12, [.ref a1])), (a1, aI k 6 (tpF z fj x v (upd f v (f v + (-x) * fd v)) w)), (r2, .inr (12, [.ref a2])), (a2, aI k 6 (upd ct v (ct v + x)))]) (st' := [.int (nI n), .int (nI w)]) (cells' := 0) (slots' := 0) (g' := 0) (by decide) rfl rfl rfl rfl rfl ?_
      refine g_icmp_ge (pc := 38) C 95 (by decide) dX6_toppleTimes_38 (fun c_38 => ?_) (fun c_38 => ?_)
      · refine G.eqw (ws' := [(h, .inr (7, [.ref jj, .ref dd, .int (nI n), .int (nI z)])), (jj, aI k 36 fj), (dd, aI k 6 fd), (pp, .inr (10, [.ref h, .ref r1, .ref r2, .int (tpT z fj x v tk n)])), (r1, .inr (12, [.ref a1])), (a1, aI k 6 (tpF z fj x v (upd f v (f v + (-x) * fd v)) w)), (r2, .inr (12, [.ref a2])), (a2, aI k 6 (upd ct v (ct v + x)))]) (congrArg (β := va_W) (fun z9 => [(h, .inr (7, [.ref jj, .ref dd, .int (nI n), .int (nI z)])), (jj, aI k 36 fj), (dd, aI k 6 fd), (pp, .inr (10, [.ref h, .ref r1, .ref r2, .int z9])), (r1, .inr (12, [.ref a1])), (a1, aI k 6 (tpF z fj x v (upd f v (f v + (-x) * fd v)) w)), (r2, .inr (12, [.ref a2])), (a2, aI k 6 (upd ct v (ct v + x)))]) (show ((tpT z fj x v tk w) : Int32) = (tpT z fj x v tk n) from by { have h3 : w = n := (by { rcases Nat.lt_or_ge w n with q | q; exact absurd c_38 (nI_ge q (by omega)); omega }); rw [h3] })) ?_
        refine G.fn (tpF z fj x v (upd f v (f v + (-x) * fd v)) n) 5 [(h, .inr (7, [.ref jj, .ref dd, .int (nI n), .int (nI z)])), (jj, aI k 36 fj), (dd, aI k 6 fd), (pp, .inr (10, [.ref h, .ref r1, .ref r2, .int (tpT z fj x v tk n)])), (r1, .inr (12, [.ref a1])), (a1, aI k 6 (tpF z fj x v (upd f v (f v + (-x) * fd v)) n)), (r2, .inr (12, [.ref a2])), (a2, aI k 6 (upd ct v (ct v + x)))] rfl (fun j hj => by { have h3 : w = n := (by { rcases Nat.lt_or_ge w n with q | q; exact absurd c_38 (nI_ge q (by omega)); omega }); rw [h3] }) rfl ?_
        exact g_vret (pc := 95) C hr hlk (by first | decide | omega) (by first | decide | omega) (by first | decide | omega) dX6_toppleTimes_95 ⟨rfl, rfl⟩
      · have hl38 : w < n := by rcases Nat.lt_or_ge w n with q | q; exact q; exact absurd (nI_le q (by omega)) c_38
        refine g_iload_n (pc := 41) C 2 rfl rfl dX6_toppleTimes_41 ?_
        refine g_aload_n (pc := 42) C 0 rfl rfl dX6_toppleTimes_42 ?_
        refine g_get (pc := 43) C (T := TX6) inX6 3 rfl rfl 0 (by decide) q_37 rfl rfl dX6_toppleTimes_43 ?_
        refine g_iload_n (pc := 46) C 1 rfl rfl dX6_toppleTimes_46 ?_
        refine g_iload_n (pc := 47) C 3 rfl rfl dX6_toppleTimes_47 ?_
        refine g_callV (pc := 48) (cells := 0) (slots := 0) (g := 0) (As := [.int (nI v), .int (nI w)]) (st := [.int x]) (T := TX3) (q0 := 0) C (nA := 2) rfl (c_X3_between h jj dd n z fj fd v w (by first | assumption | decide | omega) (by first | assumption | decide | omega) (by first | assumption | decide | omega)) q_68 q_23 q_21 q_16 q_20 (by decide +kernel) rfl rfl dX6_toppleTimes_48 ⟨Nat.le_of_ble_eq_true rfl, Nat.le_of_ble_eq_true rfl⟩ [0, 1, 2] [3, 4, 5, 6, 7] rfl (wr := [(pp, .inr (10, [.ref h, .ref r1, .ref r2, .int (tpT z fj x v tk w)])), (r1, .inr (12, [.ref a1])), (a1, aI k 6 (tpF z fj x v (upd f v (f v + (-x) * fd v)) w)), (r2, .inr (12, [.ref a2])), (a2, aI k 6 (upd ct v (ct v + x)))]) rfl (by decide) (by decide) (by decide) (Nat.le_of_ble_eq_true rfl) ⟨Nat.le_of_ble_eq_true rfl, Nat.le_of_ble_eq_true rfl⟩ (fun rv w1 h1 => ?_)
        obtain ⟨rfl, rfl⟩ := h1
        refine G.aft [5, 6, 7, 0, 1, 2, 3, 4] (ws' := [(h, .inr (7, [.ref jj, .ref dd, .int (nI n), .int (nI z)])), (jj, aI k 36 fj), (dd, aI k 6 fd), (pp, .inr (10, [.ref h, .ref r1, .ref r2, .int (tpT z fj x v tk w)])), (r1, .inr (12, [.ref a1])), (a1, aI k 6 (tpF z fj x v (upd f v (f v + (-x) * fd v)) w)), (r2, .inr (12, [.ref a2])), (a2, aI k 6 (upd ct v (ct v + x)))]) (st' := [.int (fj (v * 6 + w)), .int x]) (cells' := 0) (slots' := 0) (g' := 0) (by decide) rfl rfl rfl rfl rfl ?_
        refine g_imul (pc := 51) C dX6_toppleTimes_51 ?_
        refine g_istore (pc := 52) C [(4, .int (x * (fj (v * 6 + w)))), (0, .ref pp), (1, .int (nI v)), (2, .int x), (3, .int (nI w))] dX6_toppleTimes_52 (by decide) rfl ?_
        refine g_aload_n (pc := 54) C 1 rfl rfl dX6_toppleTimes_54 ?_
        refine g_get (pc := 55) C (T := TX6) inX6 3 rfl rfl 0 (by decide) q_37 rfl rfl dX6_toppleTimes_55 ?_
        refine g_iload_n (pc := 58) C 4 rfl rfl dX6_toppleTimes_58 ?_
        refine g_callV (pc := 59) (cells := 0) (slots := 0) (g := 0) (As := [.int (nI w)]) (st := []) (T := TX3) (q0 := 0) C (nA := 1) rfl (c_X3_isSink h jj dd n z fj fd w (by first | assumption | decide | omega) (by first | assumption | decide | omega)) q_54 q_55 q_53 q_16 q_52 (by decide +kernel) rfl rfl dX6_toppleTimes_59 ⟨Nat.le_of_ble_eq_true rfl, Nat.le_of_ble_eq_true rfl⟩ [0, 1, 2] [3, 4, 5, 6, 7] rfl (wr := [(pp, .inr (10, [.ref h, .ref r1, .ref r2, .int (tpT z fj x v tk w)])), (r1, .inr (12, [.ref a1])), (a1, aI k 6 (tpF z fj x v (upd f v (f v + (-x) * fd v)) w)), (r2, .inr (12, [.ref a2])), (a2, aI k 6 (upd ct v (ct v + x)))]) rfl (by decide) (by decide) (by decide) (Nat.le_of_ble_eq_true rfl) ⟨Nat.le_of_ble_eq_true rfl, Nat.le_of_ble_eq_true rfl⟩ (fun rv w1 h1 => ?_)
        obtain ⟨rfl, rfl⟩ := h1
        refine G.aft [5, 6, 7, 0, 1, 2, 3, 4] (ws' := [(h, .inr (7, [.ref jj, .ref dd, .int (nI n), .int (nI z)])), (jj, aI k 36 fj), (dd, aI k 6 fd), (pp, .inr (10, [.ref h, .ref r1, .ref r2, .int (tpT z fj x v tk w)])), (r1, .inr (12, [.ref a1])), (a1, aI k 6 (tpF z fj x v (upd f v (f v + (-x) * fd v)) w)), (r2, .inr (12, [.ref a2])), (a2, aI k 6 (upd ct v (ct v + x)))]) (st' := [.int (bI (decide (w = z)))]) (cells' := 0) (slots' := 0) (g' := 0) (by decide) rfl rfl rfl rfl rfl ?_
        refine g_if_eq (pc := 62) C 79 (by decide) dX6_toppleTimes_62 (fun c_62 => ?_) (fun c_62 => ?_)
        · simp only [bI_0, decide_eq_false_iff_not, decide_eq_true_eq, Bool.not_eq_false, Decidable.not_not] at c_62
          refine g_aload_n (pc := 79) C 1 rfl rfl dX6_toppleTimes_79 ?_
          refine g_get (pc := 80) C (T := TX6) inX6 3 rfl rfl 1 (by decide) q_34 rfl rfl dX6_toppleTimes_80 ?_
          refine g_iload_n (pc := 83) C 4 rfl rfl dX6_toppleTimes_83 ?_
          refine g_iload (pc := 84) C 0 rfl dX6_toppleTimes_84 ?_
          refine g_callV (pc := 86) (cells := 0) (slots := 0) (g := 0) (As := [.int (nI w), .int (x * (fj (v * 6 + w)))]) (st := []) (T := TX8) (q0 := 4) C (nA := 2) rfl (c_X8_add_n r1 a1 6 (tpF z fj x v (upd f v (f v + (-x) * fd v)) w) w (x * (fj (v * 6 + w))) (by first | assumption | decide | omega) (by first | assumption | decide | omega)) q_58 q_59 q_57 q_6 q_56 (by decide +kernel) rfl rfl dX6_toppleTimes_86 ⟨Nat.le_of_ble_eq_true rfl, Nat.le_of_ble_eq_true rfl⟩ [4, 5] [0, 1, 2, 3, 6, 7] rfl (wr := [(h, .inr (7, [.ref jj, .ref dd, .int (nI n), .int (nI z)])), (jj, aI k 36 fj), (dd, aI k 6 fd), (pp, .inr (10, [.ref h, .ref r1, .ref r2, .int (tpT z fj x v tk w)])), (r2, .inr (12, [.ref a2])), (a2, aI k 6 (upd ct v (ct v + x)))]) rfl (by decide) (by decide) (by decide) (Nat.le_of_ble_eq_true rfl) ⟨Nat.le_of_ble_eq_true rfl, Nat.le_of_ble_eq_true rfl⟩ (fun rv w1 h1 => ?_)
          obtain ⟨rfl, rfl⟩ := h1
          refine G.aft [0, 1, 2, 3, 6, 7, 4, 5] (ws' := [(h, .inr (7, [.ref jj, .ref dd, .int (nI n), .int (nI z)])), (jj, aI k 36 fj), (dd, aI k 6 fd), (pp, .inr (10, [.ref h, .ref r1, .ref r2, .int (tpT z fj x v tk w)])), (r1, .inr (12, [.ref a1])), (a1, aI k 6 (upd (tpF z fj x v (upd f v (f v + (-x) * fd v)) w) w ((tpF z fj x v (upd f v (f v + (-x) * fd v)) w) w + (x * (fj (v * 6 + w)))))), (r2, .inr (12, [.ref a2])), (a2, aI k 6 (upd ct v (ct v + x)))]) (st' := []) (cells' := 0) (slots' := 0) (g' := 0) (by decide) rfl rfl rfl rfl rfl ?_
          refine g_iinc (pc := 89) (n := 1) (v := (nI (w + 1))) C 4 [(3, .int (nI (w + 1))), (4, .int (x * (fj (v * 6 + w)))), (0, .ref pp), (1, .int (nI v)), (2, .int x)] rfl (nI_1 w) dX6_toppleTimes_89 (by decide) rfl ?_
          refine g_goto (pc := 92) C 30 (by decide) dX6_toppleTimes_92 ?_
          refine G.loc [2, 3, 4, 0] (lv' := [(0, .ref pp), (1, .int (nI v)), (2, .int x), (3, .int (nI (w + 1)))]) rfl ?_
          refine G.eqw (ws' := [(h, .inr (7, [.ref jj, .ref dd, .int (nI n), .int (nI z)])), (jj, aI k 36 fj), (dd, aI k 6 fd), (pp, .inr (10, [.ref h, .ref r1, .ref r2, .int (tpT z fj x v tk (w + 1))])), (r1, .inr (12, [.ref a1])), (a1, aI k 6 (upd (tpF z fj x v (upd f v (f v + (-x) * fd v)) w) w ((tpF z fj x v (upd f v (f v + (-x) * fd v)) w) w + (x * (fj (v * 6 + w)))))), (r2, .inr (12, [.ref a2])), (a2, aI k 6 (upd ct v (ct v + x)))]) (congrArg (β := va_W) (fun z9 => [(h, .inr (7, [.ref jj, .ref dd, .int (nI n), .int (nI z)])), (jj, aI k 36 fj), (dd, aI k 6 fd), (pp, .inr (10, [.ref h, .ref r1, .ref r2, .int z9])), (r1, .inr (12, [.ref a1])), (a1, aI k 6 (upd (tpF z fj x v (upd f v (f v + (-x) * fd v)) w) w ((tpF z fj x v (upd f v (f v + (-x) * fd v)) w) w + (x * (fj (v * 6 + w)))))), (r2, .inr (12, [.ref a2])), (a2, aI k 6 (upd ct v (ct v + x)))]) (show ((tpT z fj x v tk w) : Int32) = (tpT z fj x v tk (w + 1)) from by simp [tpF, tpT, c_62])) ?_
          refine G.fn (tpF z fj x v (upd f v (f v + (-x) * fd v)) (w + 1)) 5 [(h, .inr (7, [.ref jj, .ref dd, .int (nI n), .int (nI z)])), (jj, aI k 36 fj), (dd, aI k 6 fd), (pp, .inr (10, [.ref h, .ref r1, .ref r2, .int (tpT z fj x v tk (w + 1))])), (r1, .inr (12, [.ref a1])), (a1, aI k 6 (tpF z fj x v (upd f v (f v + (-x) * fd v)) (w + 1))), (r2, .inr (12, [.ref a2])), (a2, aI k 6 (upd ct v (ct v + x)))] rfl (fun j hj => by simp [tpF, tpT, c_62]) rfl ?_
          exact ih_30 (w + 1) (by omega) (by omega)
        · simp only [bI_0, decide_eq_false_iff_not, decide_eq_true_eq, Bool.not_eq_false, Decidable.not_not] at c_62
          refine g_aload_n (pc := 65) C 1 rfl rfl dX6_toppleTimes_65 ?_
          refine g_dup (pc := 66) C rfl dX6_toppleTimes_66 ?_
          refine g_get (pc := 67) C (T := TX6) inX6 3 rfl rfl 3 (by decide) q_36 rfl rfl dX6_toppleTimes_67 ?_
          refine g_iload (pc := 70) C 0 rfl dX6_toppleTimes_70 ?_
          refine g_iadd (pc := 72) C dX6_toppleTimes_72 ?_
          refine g_put (pc := 73) C (T := TX6) inX6 3 rfl rfl 3 (by decide) q_36 rfl tyX6 tyX6_ok nmX6 rfl [(h, .inr (7, [.ref jj, .ref dd, .int (nI n), .int (nI z)])), (jj, aI k 36 fj), (dd, aI k 6 fd), (pp, .inr (10, [.ref h, .ref r1, .ref r2, .int ((tpT z fj x v tk w) + (x * (fj (v * 6 + w))))])), (r1, .inr (12, [.ref a1])), (a1, aI k 6 (tpF z fj x v (upd f v (f v + (-x) * fd v)) w)), (r2, .inr (12, [.ref a2])), (a2, aI k 6 (upd ct v (ct v + x)))] (tyX6_ok 3 (by decide)) rfl (by rfl) (Nat.le_of_ble_eq_true rfl) rfl dX6_toppleTimes_73 ?_
          refine g_goto (pc := 76) C 89 (by decide) dX6_toppleTimes_76 ?_
          refine g_iinc (pc := 89) (n := 1) (v := (nI (w + 1))) C 4 [(3, .int (nI (w + 1))), (4, .int (x * (fj (v * 6 + w)))), (0, .ref pp), (1, .int (nI v)), (2, .int x)] rfl (nI_1 w) dX6_toppleTimes_89 (by decide) rfl ?_
          refine g_goto (pc := 92) C 30 (by decide) dX6_toppleTimes_92 ?_
          refine G.loc [2, 3, 4, 0] (lv' := [(0, .ref pp), (1, .int (nI v)), (2, .int x), (3, .int (nI (w + 1)))]) rfl ?_
          refine G.eqw (ws' := [(h, .inr (7, [.ref jj, .ref dd, .int (nI n), .int (nI z)])), (jj, aI k 36 fj), (dd, aI k 6 fd), (pp, .inr (10, [.ref h, .ref r1, .ref r2, .int (tpT z fj x v tk (w + 1))])), (r1, .inr (12, [.ref a1])), (a1, aI k 6 (tpF z fj x v (upd f v (f v + (-x) * fd v)) w)), (r2, .inr (12, [.ref a2])), (a2, aI k 6 (upd ct v (ct v + x)))]) (congrArg (β := va_W) (fun z9 => [(h, .inr (7, [.ref jj, .ref dd, .int (nI n), .int (nI z)])), (jj, aI k 36 fj), (dd, aI k 6 fd), (pp, .inr (10, [.ref h, .ref r1, .ref r2, .int z9])), (r1, .inr (12, [.ref a1])), (a1, aI k 6 (tpF z fj x v (upd f v (f v + (-x) * fd v)) w)), (r2, .inr (12, [.ref a2])), (a2, aI k 6 (upd ct v (ct v + x)))]) (show (((tpT z fj x v tk w) + (x * (fj (v * 6 + w)))) : Int32) = (tpT z fj x v tk (w + 1)) from by simp [tpF, tpT, c_62])) ?_
          refine G.fn (tpF z fj x v (upd f v (f v + (-x) * fd v)) (w + 1)) 5 [(h, .inr (7, [.ref jj, .ref dd, .int (nI n), .int (nI z)])), (jj, aI k 36 fj), (dd, aI k 6 fd), (pp, .inr (10, [.ref h, .ref r1, .ref r2, .int (tpT z fj x v tk (w + 1))])), (r1, .inr (12, [.ref a1])), (a1, aI k 6 (tpF z fj x v (upd f v (f v + (-x) * fd v)) (w + 1))), (r2, .inr (12, [.ref a2])), (a2, aI k 6 (upd ct v (ct v + x)))] rfl (fun j hj => by simp [tpF, tpT, c_62]) rfl ?_
          exact ih_30 (w + 1) (by omega) (by omega)
  refine G.loc [1, 2, 3, 0] (lv' := [(0, .ref pp), (1, .int (nI v)), (2, .int x), (3, .int 0)]) rfl ?_
  refine G.eqw (ws' := [(h, .inr (7, [.ref jj, .ref dd, .int (nI n), .int (nI z)])), (jj, aI k 36 fj), (dd, aI k 6 fd), (pp, .inr (10, [.ref h, .ref r1, .ref r2, .int (tpT z fj x v tk 0)])), (r1, .inr (12, [.ref a1])), (a1, aI k 6 (upd f v (f v + ((-x) * (fd v))))), (r2, .inr (12, [.ref a2])), (a2, aI k 6 (upd ct v (ct v + x)))]) (congrArg (β := va_W) (fun z9 => [(h, .inr (7, [.ref jj, .ref dd, .int (nI n), .int (nI z)])), (jj, aI k 36 fj), (dd, aI k 6 fd), (pp, .inr (10, [.ref h, .ref r1, .ref r2, .int z9])), (r1, .inr (12, [.ref a1])), (a1, aI k 6 (upd f v (f v + ((-x) * (fd v))))), (r2, .inr (12, [.ref a2])), (a2, aI k 6 (upd ct v (ct v + x)))]) (show (tk : Int32) = (tpT z fj x v tk 0) from by rfl)) ?_
  refine G.fn (tpF z fj x v (upd f v (f v + (-x) * fd v)) 0) 5 [(h, .inr (7, [.ref jj, .ref dd, .int (nI n), .int (nI z)])), (jj, aI k 36 fj), (dd, aI k 6 fd), (pp, .inr (10, [.ref h, .ref r1, .ref r2, .int (tpT z fj x v tk 0)])), (r1, .inr (12, [.ref a1])), (a1, aI k 6 (tpF z fj x v (upd f v (f v + (-x) * fd v)) 0)), (r2, .inr (12, [.ref a2])), (a2, aI k 6 (upd ct v (ct v + x)))] rfl (fun j hj => by rfl) rfl ?_
  refine G.eql (lv' := [(0, .ref pp), (1, .int (nI v)), (2, .int x), (3, .int (nI 0))]) (congrArg (β := List (Nat × Value)) (fun z9 => [(0, .ref pp), (1, .int (nI v)), (2, .int x), (3, .int z9)]) (show (0 : Int32) = (nI 0) from by exact nI_0.symm)) ?_
  exact key_30 (n - 0 + 1) 0 (by omega) (Nat.lt_succ_self _)
/-- a wave: who can topple, as bits; then each of them once -/
def wvM (z : Nat) (fd f : Nat → Int32) : Nat → Int32
  | 0 => 0
  | v + 1 => if cTop z fd f v = true then wvM z fd f v ||| (1 <<< (nI v &&& 31)) else wvM z fd f v
def wvS (n z : Nat) (fj fd : Nat → Int32) (M : Int32) (S : (Nat → Int32) × (Nat → Int32) × Int32) : Nat → (Nat → Int32) × (Nat → Int32) × Int32
  | 0 => S
  | v + 1 => if ((M >>> (nI v &&& 31)) &&& 1) = 1 then (tpF z fj 1 v (upd (wvS n z fj fd M S v).1 v ((wvS n z fj fd M S v).1 v + (-1) * fd v)) n, upd (wvS n z fj fd M S v).2.1 v ((wvS n z fj fd M S v).2.1 v + 1), tpT z fj 1 v (wvS n z fj fd M S v).2.2 n) else wvS n z fj fd M S v
set_option maxRecDepth 100000 in
set_option maxHeartbeats 400000 in
theorem c_X6_toppleWave {l : Launch} {D : va_G} {k : Nat → ClassId} (h : Nat) (jj : Nat) (dd : Nat) (n : Nat) (z : Nat) (fj : Nat → Int32) (fd : Nat → Int32) (pp : Nat) (r1 : Nat) (a1 : Nat) (r2 : Nat) (a2 : Nat) (f : Nat → Int32) (ct : Nat → Int32) (tk : Int32) (hn : n ≤ 6) (hz : z < 6) : CM l D k yX6_toppleWave cX6_toppleWave 3 (some .boolean)  2 47 [.ref pp] [(h, .inr (7, [.ref jj, .ref dd, .int (nI n), .int (nI z)])), (jj, aI k 36 fj), (dd, aI k 6 fd), (pp, .inr (10, [.ref h, .ref r1, .ref r2, .int tk])), (r1, .inr (12, [.ref a1])), (a1, aI k 6 f), (r2, .inr (12, [.ref a2])), (a2, aI k 6 ct)] (is1 (some (.int (bI (decide (¬ wvM z fd f n = 0))))) [(h, .inr (7, [.ref jj, .ref dd, .int (nI n), .int (nI z)])), (jj, aI k 36 fj), (dd, aI k 6 fd), (pp, .inr (10, [.ref h, .ref r1, .ref r2, .int ((wvS n z fj fd (wvM z fd f n) (f, ct, tk) n).2.2)])), (r1, .inr (12, [.ref a1])), (a1, aI k 6 ((wvS n z fj fd (wvM z fd f n) (f, ct, tk) n).1)), (r2, .inr (12, [.ref a2])), (a2, aI k 6 ((wvS n z fj fd (wvM z fd f n) (f, ct, tk) n).2.1))]) 0 0 0 := by
  refine CM.of (lv0 := [(0, .ref pp)]) (by decide +kernel) (Nat.le_of_ble_eq_true rfl) rfl ?_
  intro p e s m below meth c C hr hlk hin had
  refine g_iconst (pc := 0) (v := 0) C (by decide) dX6_toppleWave_0 ?_
  refine g_istore_n (pc := 1) C [(1, .int 0), (0, .ref pp)] rfl dX6_toppleWave_1 (by decide) rfl ?_
  refine g_iconst (pc := 2) (v := 0) C (by decide) dX6_toppleWave_2 ?_
  refine g_istore_n (pc := 3) C [(2, .int 0), (1, .int 0), (0, .ref pp)] rfl dX6_toppleWave_3 (by decide) rfl ?_
  have key_4 : ∀ (fuel : Nat) (i : Nat), i ≤ n → n - i < fuel → G p l e { frames := 2, cells := 0, slots := 0, locals := 47 } s m ([.ref pp] : List Value).toArray below meth c D 3 (va_A [(h, .inr (7, [.ref jj, .ref dd, .int (nI n), .int (nI z)])), (jj, aI k 36 fj), (dd, aI k 6 fd), (pp, .inr (10, [.ref h, .ref r1, .ref r2, .int tk])), (r1, .inr (12, [.ref a1])), (a1, aI k 6 f), (r2, .inr (12, [.ref a2])), (a2, aI k 6 ct)] s.heap.size) (QM below D ([.ref pp] : List Value).toArray s [(h, .inr (7, [.ref jj, .ref dd, .int (nI n), .int (nI z)])), (jj, aI k 36 fj), (dd, aI k 6 fd), (pp, .inr (10, [.ref h, .ref r1, .ref r2, .int tk])), (r1, .inr (12, [.ref a1])), (a1, aI k 6 f), (r2, .inr (12, [.ref a2])), (a2, aI k 6 ct)] (is1 (some (.int (bI (decide (¬ wvM z fd f n = 0))))) [(h, .inr (7, [.ref jj, .ref dd, .int (nI n), .int (nI z)])), (jj, aI k 36 fj), (dd, aI k 6 fd), (pp, .inr (10, [.ref h, .ref r1, .ref r2, .int ((wvS n z fj fd (wvM z fd f n) (f, ct, tk) n).2.2)])), (r1, .inr (12, [.ref a1])), (a1, aI k 6 ((wvS n z fj fd (wvM z fd f n) (f, ct, tk) n).1)), (r2, .inr (12, [.ref a2])), (a2, aI k 6 ((wvS n z fj fd (wvM z fd f n) (f, ct, tk) n).2.1))]) 0 0 0) [(h, .inr (7, [.ref jj, .ref dd, .int (nI n), .int (nI z)])), (jj, aI k 36 fj), (dd, aI k 6 fd), (pp, .inr (10, [.ref h, .ref r1, .ref r2, .int tk])), (r1, .inr (12, [.ref a1])), (a1, aI k 6 f), (r2, .inr (12, [.ref a2])), (a2, aI k 6 ct)] [(0, .ref pp), (1, .int (wvM z fd f i)), (2, .int (nI i))] 0 0 0 4 [] := by
    intro fuel
    induction fuel with
    | zero => intro i hi hm; exact absurd hm (Nat.not_lt_zero _)
    | succ fuel ih =>
      intro i hi hm
      have ih_4 := ih
      refine g_iload_n (pc := 4) C 2 rfl rfl dX6_toppleWave_4 ?_
      refine g_aload_n (pc := 5) C 0 rfl rfl dX6_toppleWave_5 ?_
      refine g_get (pc := 6) C (T := TX6) inX6 3 rfl rfl 0 (by decide) q_37 rfl rfl dX6_toppleWave_6 ?_
      refine g_callV (pc := 9) (cells := 0) (slots := 0) (g := 0) (As := []) (st := [.int (nI i)]) (T := TX3) (q0 := 0) C (nA := 0) rfl (c_X3_size h jj dd n z fj fd ) q_66 q_67 q_65 q_16 q_64 (by decide +kernel) rfl rfl dX6_toppleWave_9 ⟨Nat.le_of_ble_eq_true rfl, Nat.le_of_ble_eq_true rfl⟩ [0, 1, 2] [3, 4, 5, 6, 7] rfl (wr := [(pp, .inr (10, [.ref h, .ref r1, .ref r2, .int tk])), (r1, .inr (12, [.ref a1])), (a1, aI k 6 f), (r2, .inr (12, [.ref a2])), (a2, aI k 6 ct)]) rfl (by decide) (by decide) (by decide) (Nat.le_of_ble_eq_true rfl) ⟨Nat.le_of_ble_eq_true rfl, Nat.le_of_ble_eq_true rfl⟩ (fun rv w1 h1 => ?_)
      obtain ⟨rfl, rfl⟩ := h1
      refine G.aft [5, 6, 7, 0, 1, 2, 3, 4] (ws' := [(h, .inr (7, [.ref jj, .ref dd, .int (nI n), .int (nI z)])), (jj, aI k 36 fj), (dd, aI k 6 fd), (pp, .inr (10, [.ref h, .ref r1, .ref r2, .int tk])), (r1, .inr (12, [.ref a1])), (a1, aI k 6 f), (r2, .inr (12, [.ref a2])), (a2, aI k 6 ct)]) (st' := [.int (nI n), .int (nI i)]) (cells' := 0) (slots' := 0) (g' := 0) (by decide) rfl rfl rfl rfl rfl ?_
      refine g_icmp_ge (pc := 12) C 35 (by decide) dX6_toppleWave_12 (fun c_12 => ?_) (fun c_12 => ?_)
      · have h3 : i = n := by { rcases Nat.lt_or_ge i n with q | q; exact absurd c_12 (nI_ge q (by omega)); omega }
        refine g_iconst (pc := 35) (v := 0) C (by decide) dX6_toppleWave_35 ?_
        refine g_istore_n (pc := 36) C [(2, .int 0), (0, .ref pp), (1, .int (wvM z fd f i))] rfl dX6_toppleWave_36 (by decide) rfl ?_
        have key_37 : ∀ (fuel : Nat) (y : Nat), y ≤ n → n - y < fuel → G p l e { frames := 2, cells := 0, slots := 0, locals := 47 } s m ([.ref pp] : List Value).toArray below meth c D 3 (va_A [(h, .inr (7, [.ref jj, .ref dd, .int (nI n), .int (nI z)])), (jj, aI k 36 fj), (dd, aI k 6 fd), (pp, .inr (10, [.ref h, .ref r1, .ref r2, .int tk])), (r1, .inr (12, [.ref a1])), (a1, aI k 6 f), (r2, .inr (12, [.ref a2])), (a2, aI k 6 ct)] s.heap.size) (QM below D ([.ref pp] : List Value).toArray s [(h, .inr (7, [.ref jj, .ref dd, .int (nI n), .int (nI z)])), (jj, aI k 36 fj), (dd, aI k 6 fd), (pp, .inr (10, [.ref h, .ref r1, .ref r2, .int tk])), (r1, .inr (12, [.ref a1])), (a1, aI k 6 f), (r2, .inr (12, [.ref a2])), (a2, aI k 6 ct)] (is1 (some (.int (bI (decide (¬ wvM z fd f n = 0))))) [(h, .inr (7, [.ref jj, .ref dd, .int (nI n), .int (nI z)])), (jj, aI k 36 fj), (dd, aI k 6 fd), (pp, .inr (10, [.ref h, .ref r1, .ref r2, .int ((wvS n z fj fd (wvM z fd f n) (f, ct, tk) n).2.2)])), (r1, .inr (12, [.ref a1])), (a1, aI k 6 ((wvS n z fj fd (wvM z fd f n) (f, ct, tk) n).1)), (r2, .inr (12, [.ref a2])), (a2, aI k 6 ((wvS n z fj fd (wvM z fd f n) (f, ct, tk) n).2.1))]) 0 0 0) [(h, .inr (7, [.ref jj, .ref dd, .int (nI n), .int (nI z)])), (jj, aI k 36 fj), (dd, aI k 6 fd), (pp, .inr (10, [.ref h, .ref r1, .ref r2, .int ((wvS n z fj fd (wvM z fd f n) (f, ct, tk) y).2.2)])), (r1, .inr (12, [.ref a1])), (a1, aI k 6 ((wvS n z fj fd (wvM z fd f n) (f, ct, tk) y).1)), (r2, .inr (12, [.ref a2])), (a2, aI k 6 ((wvS n z fj fd (wvM z fd f n) (f, ct, tk) y).2.1))] [(0, .ref pp), (1, .int (wvM z fd f n)), (2, .int (nI y))] 0 0 0 37 [] := by
          intro fuel
          induction fuel with
          | zero => intro y hy hm; exact absurd hm (Nat.not_lt_zero _)
          | succ fuel ih =>
            intro y hy hm
            have ih_37 := ih
            refine g_iload_n (pc := 37) C 2 rfl rfl dX6_toppleWave_37 ?_
            refine g_aload_n (pc := 38) C 0 rfl rfl dX6_toppleWave_38 ?_
            refine g_get (pc := 39) C (T := TX6) inX6 3 rfl rfl 0 (by decide) q_37 rfl rfl dX6_toppleWave_39 ?_
            refine g_callV (pc := 42) (cells := 0) (slots := 0) (g := 0) (As := []) (st := [.int (nI y)]) (T := TX3) (q0 := 0) C (nA := 0) rfl (c_X3_size h jj dd n z fj fd ) q_66 q_67 q_65 q_16 q_64 (by decide +kernel) rfl rfl dX6_toppleWave_42 ⟨Nat.le_of_ble_eq_true rfl, Nat.le_of_ble_eq_true rfl⟩ [0, 1, 2] [3, 4, 5, 6, 7] rfl (wr := [(pp, .inr (10, [.ref h, .ref r1, .ref r2, .int ((wvS n z fj fd (wvM z fd f n) (f, ct, tk) y).2.2)])), (r1, .inr (12, [.ref a1])), (a1, aI k 6 ((wvS n z fj fd (wvM z fd f n) (f, ct, tk) y).1)), (r2, .inr (12, [.ref a2])), (a2, aI k 6 ((wvS n z fj fd (wvM z fd f n) (f, ct, tk) y).2.1))]) rfl (by decide) (by decide) (by decide) (Nat.le_of_ble_eq_true rfl) ⟨Nat.le_of_ble_eq_true rfl, Nat.le_of_ble_eq_true rfl⟩ (fun rv w1 h1 => ?_)
            obtain ⟨rfl, rfl⟩ := h1
            refine G.aft [5, 6, 7, 0, 1, 2, 3, 4] (ws' := [(h, .inr (7, [.ref jj, .ref dd, .int (nI n), .int (nI z)])), (jj, aI k 36 fj), (dd, aI k 6 fd), (pp, .inr (10, [.ref h, .ref r1, .ref r2, .int ((wvS n z fj fd (wvM z fd f n) (f, ct, tk) y).2.2)])), (r1, .inr (12, [.ref a1])), (a1, aI k 6 ((wvS n z fj fd (wvM z fd f n) (f, ct, tk) y).1)), (r2, .inr (12, [.ref a2])), (a2, aI k 6 ((wvS n z fj fd (wvM z fd f n) (f, ct, tk) y).2.1))]) (st' := [.int (nI n), .int (nI y)]) (cells' := 0) (slots' := 0) (g' := 0) (by decide) rfl rfl rfl rfl rfl ?_
            refine g_icmp_ge (pc := 45) C 69 (by decide) dX6_toppleWave_45 (fun c_45 => ?_) (fun c_45 => ?_)
            · refine g_iload_n (pc := 69) C 1 rfl rfl dX6_toppleWave_69 ?_
              refine g_if_eq (pc := 70) C 77 (by decide) dX6_toppleWave_70 (fun c_70 => ?_) (fun c_70 => ?_)
              · refine g_iconst (pc := 77) (v := 0) C (by decide) dX6_toppleWave_77 ?_
                refine G.eqw (ws' := [(h, .inr (7, [.ref jj, .ref dd, .int (nI n), .int (nI z)])), (jj, aI k 36 fj), (dd, aI k 6 fd), (pp, .inr (10, [.ref h, .ref r1, .ref r2, .int ((wvS n z fj fd (wvM z fd f n) (f, ct, tk) n).2.2)])), (r1, .inr (12, [.ref a1])), (a1, aI k 6 ((wvS n z fj fd (wvM z fd f n) (f, ct, tk) y).1)), (r2, .inr (12, [.ref a2])), (a2, aI k 6 ((wvS n z fj fd (wvM z fd f n) (f, ct, tk) y).2.1))]) (congrArg (β := va_W) (fun z9 => [(h, .inr (7, [.ref jj, .ref dd, .int (nI n), .int (nI z)])), (jj, aI k 36 fj), (dd, aI k 6 fd), (pp, .inr (10, [.ref h, .ref r1, .ref r2, .int z9])), (r1, .inr (12, [.ref a1])), (a1, aI k 6 ((wvS n z fj fd (wvM z fd f n) (f, ct, tk) y).1)), (r2, .inr (12, [.ref a2])), (a2, aI k 6 ((wvS n z fj fd (wvM z fd f n) (f, ct, tk) y).2.1))]) (show ((wvS n z fj fd (wvM z fd f n) (f, ct, tk) y).2.2 : Int32) = (wvS n z fj fd (wvM z fd f n) (f, ct, tk) n).2.2 from by { have h4 : y = n := (by { rcases Nat.lt_or_ge y n with q | q; exact absurd c_45 (nI_ge q (by omega)); omega }); first | rw [h4] | simp [bI, c_70] })) ?_
                refine G.fn ((wvS n z fj fd (wvM z fd f n) (f, ct, tk) n).1) 5 [(h, .inr (7, [.ref jj, .ref dd, .int (nI n), .int (nI z)])), (jj, aI k 36 fj), (dd, aI k 6 fd), (pp, .inr (10, [.ref h, .ref r1, .ref r2, .int ((wvS n z fj fd (wvM z fd f n) (f, ct, tk) n).2.2)])), (r1, .inr (12, [.ref a1])), (a1, aI k 6 ((wvS n z fj fd (wvM z fd f n) (f, ct, tk) n).1)), (r2, .inr (12, [.ref a2])), (a2, aI k 6 ((wvS n z fj fd (wvM z fd f n) (f, ct, tk) y).2.1))] rfl (fun j hj => by { have h4 : y = n := (by { rcases Nat.lt_or_ge y n with q | q; exact absurd c_45 (nI_ge q (by omega)); omega }); first | rw [h4] | simp [bI, c_70] }) rfl ?_
                refine G.fn ((wvS n z fj fd (wvM z fd f n) (f, ct, tk) n).2.1) 7 [(h, .inr (7, [.ref jj, .ref dd, .int (nI n), .int (nI z)])), (jj, aI k 36 fj), (dd, aI k 6 fd), (pp, .inr (10, [.ref h, .ref r1, .ref r2, .int ((wvS n z fj fd (wvM z fd f n) (f, ct, tk) n).2.2)])), (r1, .inr (12, [.ref a1])), (a1, aI k 6 ((wvS n z fj fd (wvM z fd f n) (f, ct, tk) n).1)), (r2, .inr (12, [.ref a2])), (a2, aI k 6 ((wvS n z fj fd (wvM z fd f n) (f, ct, tk) n).2.1))] rfl (fun j hj => by { have h4 : y = n := (by { rcases Nat.lt_or_ge y n with q | q; exact absurd c_45 (nI_ge q (by omega)); omega }); first | rw [h4] | simp [bI, c_70] }) rfl ?_
                refine G.eqs (st' := [.int (bI (decide (¬ wvM z fd f n = 0)))]) (congrArg (fun z9 => [Value.int z9]) (show (0 : Int32) = (bI (decide (¬ wvM z fd f n = 0))) from by { have h4 : y = n := (by { rcases Nat.lt_or_ge y n with q | q; exact absurd c_45 (nI_ge q (by omega)); omega }); first | rw [h4] | simp [bI, c_70] })) ?_
                exact g_zret (pc := 78) C hr (by first | rfl | exact bI_nar _) hlk (by first | decide | omega) (by first | decide | omega) (by first | decide | omega) dX6_toppleWave_78 ⟨rfl, rfl⟩
              · refine g_iconst (pc := 73) (v := 1) C (by decide) dX6_toppleWave_73 ?_
                refine g_goto (pc := 74) C 78 (by decide) dX6_toppleWave_74 ?_
                refine G.eqw (ws' := [(h, .inr (7, [.ref jj, .ref dd, .int (nI n), .int (nI z)])), (jj, aI k 36 fj), (dd, aI k 6 fd), (pp, .inr (10, [.ref h, .ref r1, .ref r2, .int ((wvS n z fj fd (wvM z fd f n) (f, ct, tk) n).2.2)])), (r1, .inr (12, [.ref a1])), (a1, aI k 6 ((wvS n z fj fd (wvM z fd f n) (f, ct, tk) y).1)), (r2, .inr (12, [.ref a2])), (a2, aI k 6 ((wvS n z fj fd (wvM z fd f n) (f, ct, tk) y).2.1))]) (congrArg (β := va_W) (fun z9 => [(h, .inr (7, [.ref jj, .ref dd, .int (nI n), .int (nI z)])), (jj, aI k 36 fj), (dd, aI k 6 fd), (pp, .inr (10, [.ref h, .ref r1, .ref r2, .int z9])), (r1, .inr (12, [.ref a1])), (a1, aI k 6 ((wvS n z fj fd (wvM z fd f n) (f, ct, tk) y).1)), (r2, .inr (12, [.ref a2])), (a2, aI k 6 ((wvS n z fj fd (wvM z fd f n) (f, ct, tk) y).2.1))]) (show ((wvS n z fj fd (wvM z fd f n) (f, ct, tk) y).2.2 : Int32) = (wvS n z fj fd (wvM z fd f n) (f, ct, tk) n).2.2 from by { have h4 : y = n := (by { rcases Nat.lt_or_ge y n with q | q; exact absurd c_45 (nI_ge q (by omega)); omega }); first | rw [h4] | simp [bI, c_70] })) ?_
                refine G.fn ((wvS n z fj fd (wvM z fd f n) (f, ct, tk) n).1) 5 [(h, .inr (7, [.ref jj, .ref dd, .int (nI n), .int (nI z)])), (jj, aI k 36 fj), (dd, aI k 6 fd), (pp, .inr (10, [.ref h, .ref r1, .ref r2, .int ((wvS n z fj fd (wvM z fd f n) (f, ct, tk) n).2.2)])), (r1, .inr (12, [.ref a1])), (a1, aI k 6 ((wvS n z fj fd (wvM z fd f n) (f, ct, tk) n).1)), (r2, .inr (12, [.ref a2])), (a2, aI k 6 ((wvS n z fj fd (wvM z fd f n) (f, ct, tk) y).2.1))] rfl (fun j hj => by { have h4 : y = n := (by { rcases Nat.lt_or_ge y n with q | q; exact absurd c_45 (nI_ge q (by omega)); omega }); first | rw [h4] | simp [bI, c_70] }) rfl ?_
                refine G.fn ((wvS n z fj fd (wvM z fd f n) (f, ct, tk) n).2.1) 7 [(h, .inr (7, [.ref jj, .ref dd, .int (nI n), .int (nI z)])), (jj, aI k 36 fj), (dd, aI k 6 fd), (pp, .inr (10, [.ref h, .ref r1, .ref r2, .int ((wvS n z fj fd (wvM z fd f n) (f, ct, tk) n).2.2)])), (r1, .inr (12, [.ref a1])), (a1, aI k 6 ((wvS n z fj fd (wvM z fd f n) (f, ct, tk) n).1)), (r2, .inr (12, [.ref a2])), (a2, aI k 6 ((wvS n z fj fd (wvM z fd f n) (f, ct, tk) n).2.1))] rfl (fun j hj => by { have h4 : y = n := (by { rcases Nat.lt_or_ge y n with q | q; exact absurd c_45 (nI_ge q (by omega)); omega }); first | rw [h4] | simp [bI, c_70] }) rfl ?_
                refine G.eqs (st' := [.int (bI (decide (¬ wvM z fd f n = 0)))]) (congrArg (fun z9 => [Value.int z9]) (show (1 : Int32) = (bI (decide (¬ wvM z fd f n = 0))) from by { have h4 : y = n := (by { rcases Nat.lt_or_ge y n with q | q; exact absurd c_45 (nI_ge q (by omega)); omega }); first | rw [h4] | simp [bI, c_70] })) ?_
                exact g_zret (pc := 78) C hr (by first | rfl | exact bI_nar _) hlk (by first | decide | omega) (by first | decide | omega) (by first | decide | omega) dX6_toppleWave_78 ⟨rfl, rfl⟩
            · have hl45 : y < n := by rcases Nat.lt_or_ge y n with q | q; exact q; exact absurd (nI_le q (by omega)) c_45
              refine g_iload_n (pc := 48) C 1 rfl rfl dX6_toppleWave_48 ?_
              refine g_iload_n (pc := 49) C 2 rfl rfl dX6_toppleWave_49 ?_
              refine g_ishr (pc := 50) C dX6_toppleWave_50 ?_
              refine g_iconst (pc := 51) (v := 1) C (by decide) dX6_toppleWave_51 ?_
              refine g_iand (pc := 52) C dX6_toppleWave_52 ?_
              refine g_iconst (pc := 53) (v := 1) C (by decide) dX6_toppleWave_53 ?_
              refine g_icmp_ne (pc := 54) C 63 (by decide) dX6_toppleWave_54 (fun c_54 => ?_) (fun c_54 => ?_)
              · refine g_iinc (pc := 63) (n := 1) (v := (nI (y + 1))) C 2 [(2, .int (nI (y + 1))), (0, .ref pp), (1, .int (wvM z fd f n))] rfl (nI_1 y) dX6_toppleWave_63 (by decide) rfl ?_
                refine g_goto (pc := 66) C 37 (by decide) dX6_toppleWave_66 ?_
                refine G.loc [1, 2, 0] (lv' := [(0, .ref pp), (1, .int (wvM z fd f n)), (2, .int (nI (y + 1)))]) rfl ?_
                refine G.eqw (ws' := [(h, .inr (7, [.ref jj, .ref dd, .int (nI n), .int (nI z)])), (jj, aI k 36 fj), (dd, aI k 6 fd), (pp, .inr (10, [.ref h, .ref r1, .ref r2, .int ((wvS n z fj fd (wvM z fd f n) (f, ct, tk) (y + 1)).2.2)])), (r1, .inr (12, [.ref a1])), (a1, aI k 6 ((wvS n z fj fd (wvM z fd f n) (f, ct, tk) y).1)), (r2, .inr (12, [.ref a2])), (a2, aI k 6 ((wvS n z fj fd (wvM z fd f n) (f, ct, tk) y).2.1))]) (congrArg (β := va_W) (fun z9 => [(h, .inr (7, [.ref jj, .ref dd, .int (nI n), .int (nI z)])), (jj, aI k 36 fj), (dd, aI k 6 fd), (pp, .inr (10, [.ref h, .ref r1, .ref r2, .int z9])), (r1, .inr (12, [.ref a1])), (a1, aI k 6 ((wvS n z fj fd (wvM z fd f n) (f, ct, tk) y).1)), (r2, .inr (12, [.ref a2])), (a2, aI k 6 ((wvS n z fj fd (wvM z fd f n) (f, ct, tk) y).2.1))]) (show ((wvS n z fj fd (wvM z fd f n) (f, ct, tk) y).2.2 : Int32) = (wvS n z fj fd (wvM z fd f n) (f, ct, tk) (y + 1)).2.2 from by simp [wvS, c_54])) ?_
                refine G.fn ((wvS n z fj fd (wvM z fd f n) (f, ct, tk) (y + 1)).1) 5 [(h, .inr (7, [.ref jj, .ref dd, .int (nI n), .int (nI z)])), (jj, aI k 36 fj), (dd, aI k 6 fd), (pp, .inr (10, [.ref h, .ref r1, .ref r2, .int ((wvS n z fj fd (wvM z fd f n) (f, ct, tk) (y + 1)).2.2)])), (r1, .inr (12, [.ref a1])), (a1, aI k 6 ((wvS n z fj fd (wvM z fd f n) (f, ct, tk) (y + 1)).1)), (r2, .inr (12, [.ref a2])), (a2, aI k 6 ((wvS n z fj fd (wvM z fd f n) (f, ct, tk) y).2.1))] rfl (fun j hj => by simp [wvS, c_54]) rfl ?_
                refine G.fn ((wvS n z fj fd (wvM z fd f n) (f, ct, tk) (y + 1)).2.1) 7 [(h, .inr (7, [.ref jj, .ref dd, .int (nI n), .int (nI z)])), (jj, aI k 36 fj), (dd, aI k 6 fd), (pp, .inr (10, [.ref h, .ref r1, .ref r2, .int ((wvS n z fj fd (wvM z fd f n) (f, ct, tk) (y + 1)).2.2)])), (r1, .inr (12, [.ref a1])), (a1, aI k 6 ((wvS n z fj fd (wvM z fd f n) (f, ct, tk) (y + 1)).1)), (r2, .inr (12, [.ref a2])), (a2, aI k 6 ((wvS n z fj fd (wvM z fd f n) (f, ct, tk) (y + 1)).2.1))] rfl (fun j hj => by simp [wvS, c_54]) rfl ?_
                exact ih_37 (y + 1) (by omega) (by omega)
              · refine g_aload_n (pc := 57) C 0 rfl rfl dX6_toppleWave_57 ?_
                refine g_iload_n (pc := 58) C 2 rfl rfl dX6_toppleWave_58 ?_
                refine g_iconst (pc := 59) (v := 1) C (by decide) dX6_toppleWave_59 ?_
                refine g_callV (pc := 60) (cells := 0) (slots := 0) (g := 0) (As := [.int (nI y), .int 1]) (st := []) (T := TX6) (q0 := 3) C (nA := 2) rfl (c_X6_toppleTimes h jj dd n z fj fd pp r1 a1 r2 a2 ((wvS n z fj fd (wvM z fd f n) (f, ct, tk) y).1) ((wvS n z fj fd (wvM z fd f n) (f, ct, tk) y).2.1) ((wvS n z fj fd (wvM z fd f n) (f, ct, tk) y).2.2) y 1 (by first | assumption | decide | omega) (by first | assumption | decide | omega) (by first | assumption | decide | omega)) q_71 q_72 q_70 q_43 q_69 (by decide +kernel) rfl rfl dX6_toppleWave_60 ⟨Nat.le_of_ble_eq_true rfl, Nat.le_of_ble_eq_true rfl⟩ [0, 1, 2, 3, 4, 5, 6, 7] [] rfl (wr := []) rfl (by decide) (by decide) (by decide) (Nat.le_of_ble_eq_true rfl) ⟨Nat.le_of_ble_eq_true rfl, Nat.le_of_ble_eq_true rfl⟩ (fun rv w1 h1 => ?_)
                obtain ⟨rfl, rfl⟩ := h1
                refine G.aft [0, 1, 2, 3, 4, 5, 6, 7] (ws' := [(h, .inr (7, [.ref jj, .ref dd, .int (nI n), .int (nI z)])), (jj, aI k 36 fj), (dd, aI k 6 fd), (pp, .inr (10, [.ref h, .ref r1, .ref r2, .int (tpT z fj 1 y ((wvS n z fj fd (wvM z fd f n) (f, ct, tk) y).2.2) n)])), (r1, .inr (12, [.ref a1])), (a1, aI k 6 (tpF z fj 1 y (upd ((wvS n z fj fd (wvM z fd f n) (f, ct, tk) y).1) y (((wvS n z fj fd (wvM z fd f n) (f, ct, tk) y).1) y + (-1) * fd y)) n)), (r2, .inr (12, [.ref a2])), (a2, aI k 6 (upd ((wvS n z fj fd (wvM z fd f n) (f, ct, tk) y).2.1) y (((wvS n z fj fd (wvM z fd f n) (f, ct, tk) y).2.1) y + 1)))]) (st' := []) (cells' := 0) (slots' := 0) (g' := 0) (by decide) rfl rfl rfl rfl rfl ?_
                refine g_iinc (pc := 63) (n := 1) (v := (nI (y + 1))) C 2 [(2, .int (nI (y + 1))), (0, .ref pp), (1, .int (wvM z fd f n))] rfl (nI_1 y) dX6_toppleWave_63 (by decide) rfl ?_
                refine g_goto (pc := 66) C 37 (by decide) dX6_toppleWave_66 ?_
                refine G.loc [1, 2, 0] (lv' := [(0, .ref pp), (1, .int (wvM z fd f n)), (2, .int (nI (y + 1)))]) rfl ?_
                refine G.eqw (ws' := [(h, .inr (7, [.ref jj, .ref dd, .int (nI n), .int (nI z)])), (jj, aI k 36 fj), (dd, aI k 6 fd), (pp, .inr (10, [.ref h, .ref r1, .ref r2, .int ((wvS n z fj fd (wvM z fd f n) (f, ct, tk) (y + 1)).2.2)])), (r1, .inr (12, [.ref a1])), (a1, aI k 6 (tpF z fj 1 y (upd ((wvS n z fj fd (wvM z fd f n) (f, ct, tk) y).1) y (((wvS n z fj fd (wvM z fd f n) (f, ct, tk) y).1) y + (-1) * fd y)) n)), (r2, .inr (12, [.ref a2])), (a2, aI k 6 (upd ((wvS n z fj fd (wvM z fd f n) (f, ct, tk) y).2.1) y (((wvS n z fj fd (wvM z fd f n) (f, ct, tk) y).2.1) y + 1)))]) (congrArg (β := va_W) (fun z9 => [(h, .inr (7, [.ref jj, .ref dd, .int (nI n), .int (nI z)])), (jj, aI k 36 fj), (dd, aI k 6 fd), (pp, .inr (10, [.ref h, .ref r1, .ref r2, .int z9])), (r1, .inr (12, [.ref a1])), (a1, aI k 6 (tpF z fj 1 y (upd ((wvS n z fj fd (wvM z fd f n) (f, ct, tk) y).1) y (((wvS n z fj fd (wvM z fd f n) (f, ct, tk) y).1) y + (-1) * fd y)) n)), (r2, .inr (12, [.ref a2])), (a2, aI k 6 (upd ((wvS n z fj fd (wvM z fd f n) (f, ct, tk) y).2.1) y (((wvS n z fj fd (wvM z fd f n) (f, ct, tk) y).2.1) y + 1)))]) (show ((tpT z fj 1 y ((wvS n z fj fd (wvM z fd f n) (f, ct, tk) y).2.2) n) : Int32) = (wvS n z fj fd (wvM z fd f n) (f, ct, tk) (y + 1)).2.2 from by simp [wvS, c_54])) ?_
                refine G.fn ((wvS n z fj fd (wvM z fd f n) (f, ct, tk) (y + 1)).1) 5 [(h, .inr (7, [.ref jj, .ref dd, .int (nI n), .int (nI z)])), (jj, aI k 36 fj), (dd, aI k 6 fd), (pp, .inr (10, [.ref h, .ref r1, .ref r2, .int ((wvS n z fj fd (wvM z fd f n) (f, ct, tk) (y + 1)).2.2)])), (r1, .inr (12, [.ref a1])), (a1, aI k 6 ((wvS n z fj fd (wvM z fd f n) (f, ct, tk) (y + 1)).1)), (r2, .inr (12, [.ref a2])), (a2, aI k 6 (upd ((wvS n z fj fd (wvM z fd f n) (f, ct, tk) y).2.1) y (((wvS n z fj fd (wvM z fd f n) (f, ct, tk) y).2.1) y + 1)))] rfl (fun j hj => by simp [wvS, c_54]) rfl ?_
                refine G.fn ((wvS n z fj fd (wvM z fd f n) (f, ct, tk) (y + 1)).2.1) 7 [(h, .inr (7, [.ref jj, .ref dd, .int (nI n), .int (nI z)])), (jj, aI k 36 fj), (dd, aI k 6 fd), (pp, .inr (10, [.ref h, .ref r1, .ref r2, .int ((wvS n z fj fd (wvM z fd f n) (f, ct, tk) (y + 1)).2.2)])), (r1, .inr (12, [.ref a1])), (a1, aI k 6 ((wvS n z fj fd (wvM z fd f n) (f, ct, tk) (y + 1)).1)), (r2, .inr (12, [.ref a2])), (a2, aI k 6 ((wvS n z fj fd (wvM z fd f n) (f, ct, tk) (y + 1)).2.1))] rfl (fun j hj => by simp [wvS, c_54]) rfl ?_
                exact ih_37 (y + 1) (by omega) (by omega)
        refine G.loc [1, 2, 0] (lv' := [(0, .ref pp), (1, .int (wvM z fd f i)), (2, .int 0)]) rfl ?_
        refine G.eqw (ws' := [(h, .inr (7, [.ref jj, .ref dd, .int (nI n), .int (nI z)])), (jj, aI k 36 fj), (dd, aI k 6 fd), (pp, .inr (10, [.ref h, .ref r1, .ref r2, .int ((wvS n z fj fd (wvM z fd f n) (f, ct, tk) 0).2.2)])), (r1, .inr (12, [.ref a1])), (a1, aI k 6 f), (r2, .inr (12, [.ref a2])), (a2, aI k 6 ct)]) (congrArg (β := va_W) (fun z9 => [(h, .inr (7, [.ref jj, .ref dd, .int (nI n), .int (nI z)])), (jj, aI k 36 fj), (dd, aI k 6 fd), (pp, .inr (10, [.ref h, .ref r1, .ref r2, .int z9])), (r1, .inr (12, [.ref a1])), (a1, aI k 6 f), (r2, .inr (12, [.ref a2])), (a2, aI k 6 ct)]) (show (tk : Int32) = (wvS n z fj fd (wvM z fd f n) (f, ct, tk) 0).2.2 from by rfl)) ?_
        refine G.fn ((wvS n z fj fd (wvM z fd f n) (f, ct, tk) 0).1) 5 [(h, .inr (7, [.ref jj, .ref dd, .int (nI n), .int (nI z)])), (jj, aI k 36 fj), (dd, aI k 6 fd), (pp, .inr (10, [.ref h, .ref r1, .ref r2, .int ((wvS n z fj fd (wvM z fd f n) (f, ct, tk) 0).2.2)])), (r1, .inr (12, [.ref a1])), (a1, aI k 6 ((wvS n z fj fd (wvM z fd f n) (f, ct, tk) 0).1)), (r2, .inr (12, [.ref a2])), (a2, aI k 6 ct)] rfl (fun j hj => by rfl) rfl ?_
        refine G.fn ((wvS n z fj fd (wvM z fd f n) (f, ct, tk) 0).2.1) 7 [(h, .inr (7, [.ref jj, .ref dd, .int (nI n), .int (nI z)])), (jj, aI k 36 fj), (dd, aI k 6 fd), (pp, .inr (10, [.ref h, .ref r1, .ref r2, .int ((wvS n z fj fd (wvM z fd f n) (f, ct, tk) 0).2.2)])), (r1, .inr (12, [.ref a1])), (a1, aI k 6 ((wvS n z fj fd (wvM z fd f n) (f, ct, tk) 0).1)), (r2, .inr (12, [.ref a2])), (a2, aI k 6 ((wvS n z fj fd (wvM z fd f n) (f, ct, tk) 0).2.1))] rfl (fun j hj => by rfl) rfl ?_
        refine G.eql (lv' := [(0, .ref pp), (1, .int (wvM z fd f n)), (2, .int (nI 0))]) ((congrArg (β := List (Nat × Value)) (fun z9 => [(0, .ref pp), (1, .int z9), (2, .int 0)]) (show ((wvM z fd f i) : Int32) = (wvM z fd f n) from by first | rfl | exact nI_0.symm | (rw [h3]) | (simp [h3]))).trans (congrArg (β := List (Nat × Value)) (fun z9 => [(0, .ref pp), (1, .int (wvM z fd f n)), (2, .int z9)]) (show (0 : Int32) = (nI 0) from by first | rfl | exact nI_0.symm | (rw [h3]) | (simp [h3])))) ?_
        exact key_37 (n - 0 + 1) 0 (by omega) (Nat.lt_succ_self _)
      · have hl12 : i < n := by rcases Nat.lt_or_ge i n with q | q; exact q; exact absurd (nI_le q (by omega)) c_12
        refine g_aload_n (pc := 15) C 0 rfl rfl dX6_toppleWave_15 ?_
        refine g_iload_n (pc := 16) C 2 rfl rfl dX6_toppleWave_16 ?_
        refine g_callV (pc := 17) (cells := 0) (slots := 0) (g := 0) (As := [.int (nI i)]) (st := []) (T := TX6) (q0 := 3) C (nA := 1) rfl (c_X6_canTopple h jj dd n z fj fd pp r1 a1 r2 a2 f ct tk i (by first | assumption | decide | omega) (by first | assumption | decide | omega)) q_75 q_76 q_74 q_43 q_73 (by decide +kernel) rfl rfl dX6_toppleWave_17 ⟨Nat.le_of_ble_eq_true rfl, Nat.le_of_ble_eq_true rfl⟩ [0, 1, 2, 3, 4, 5, 6, 7] [] rfl (wr := []) rfl (by decide) (by decide) (by decide) (Nat.le_of_ble_eq_true rfl) ⟨Nat.le_of_ble_eq_true rfl, Nat.le_of_ble_eq_true rfl⟩ (fun rv w1 h1 => ?_)
        obtain ⟨rfl, rfl⟩ := h1
        refine G.aft [0, 1, 2, 3, 4, 5, 6, 7] (ws' := [(h, .inr (7, [.ref jj, .ref dd, .int (nI n), .int (nI z)])), (jj, aI k 36 fj), (dd, aI k 6 fd), (pp, .inr (10, [.ref h, .ref r1, .ref r2, .int tk])), (r1, .inr (12, [.ref a1])), (a1, aI k 6 f), (r2, .inr (12, [.ref a2])), (a2, aI k 6 ct)]) (st' := [.int (bI (cTop z fd f i))]) (cells' := 0) (slots' := 0) (g' := 0) (by decide) rfl rfl rfl rfl rfl ?_
        refine g_if_eq (pc := 20) C 29 (by decide) dX6_toppleWave_20 (fun c_20 => ?_) (fun c_20 => ?_)
        · simp only [bI_0, decide_eq_false_iff_not, decide_eq_true_eq, Bool.not_eq_false, Decidable.not_not] at c_20
          refine g_iinc (pc := 29) (n := 1) (v := (nI (i + 1))) C 2 [(2, .int (nI (i + 1))), (0, .ref pp), (1, .int (wvM z fd f i))] rfl (nI_1 i) dX6_toppleWave_29 (by decide) rfl ?_
          refine g_goto (pc := 32) C 4 (by decide) dX6_toppleWave_32 ?_
          refine G.loc [1, 2, 0] (lv' := [(0, .ref pp), (1, .int (wvM z fd f i)), (2, .int (nI (i + 1)))]) rfl ?_
          refine G.eql (lv' := [(0, .ref pp), (1, .int (wvM z fd f (i + 1))), (2, .int (nI (i + 1)))]) (congrArg (β := List (Nat × Value)) (fun z9 => [(0, .ref pp), (1, .int z9), (2, .int (nI (i + 1)))]) (show ((wvM z fd f i) : Int32) = (wvM z fd f (i + 1)) from by simp [wvM, c_20])) ?_
          exact ih_4 (i + 1) (by omega) (by omega)
        · simp only [bI_0, decide_eq_false_iff_not, decide_eq_true_eq, Bool.not_eq_false, Decidable.not_not] at c_20
          refine g_iload_n (pc := 23) C 1 rfl rfl dX6_toppleWave_23 ?_
          refine g_iconst (pc := 24) (v := 1) C (by decide) dX6_toppleWave_24 ?_
          refine g_iload_n (pc := 25) C 2 rfl rfl dX6_toppleWave_25 ?_
          refine g_ishl (pc := 26) C dX6_toppleWave_26 ?_
          refine g_ior (pc := 27) C dX6_toppleWave_27 ?_
          refine g_istore_n (pc := 28) C [(1, .int ((wvM z fd f i) ||| (1 <<< ((nI i) &&& 31)))), (0, .ref pp), (2, .int (nI i))] rfl dX6_toppleWave_28 (by decide) rfl ?_
          refine g_iinc (pc := 29) (n := 1) (v := (nI (i + 1))) C 2 [(2, .int (nI (i + 1))), (1, .int ((wvM z fd f i) ||| (1 <<< ((nI i) &&& 31)))), (0, .ref pp)] rfl (nI_1 i) dX6_toppleWave_29 (by decide) rfl ?_
          refine g_goto (pc := 32) C 4 (by decide) dX6_toppleWave_32 ?_
          refine G.loc [2, 1, 0] (lv' := [(0, .ref pp), (1, .int ((wvM z fd f i) ||| (1 <<< ((nI i) &&& 31)))), (2, .int (nI (i + 1)))]) rfl ?_
          refine G.eql (lv' := [(0, .ref pp), (1, .int (wvM z fd f (i + 1))), (2, .int (nI (i + 1)))]) (congrArg (β := List (Nat × Value)) (fun z9 => [(0, .ref pp), (1, .int z9), (2, .int (nI (i + 1)))]) (show (((wvM z fd f i) ||| (1 <<< ((nI i) &&& 31))) : Int32) = (wvM z fd f (i + 1)) from by simp [wvM, c_20])) ?_
          exact ih_4 (i + 1) (by omega) (by omega)
  refine G.loc [2, 1, 0] (lv' := [(0, .ref pp), (1, .int 0), (2, .int 0)]) rfl ?_
  refine G.eql (lv' := [(0, .ref pp), (1, .int (wvM z fd f 0)), (2, .int (nI 0))]) ((congrArg (β := List (Nat × Value)) (fun z9 => [(0, .ref pp), (1, .int z9), (2, .int 0)]) (show (0 : Int32) = (wvM z fd f 0) from by first | rfl | exact nI_0.symm)).trans (congrArg (β := List (Nat × Value)) (fun z9 => [(0, .ref pp), (1, .int (wvM z fd f 0)), (2, .int z9)]) (show (0 : Int32) = (nI 0) from by first | rfl | exact nI_0.symm))) ?_
  exact key_4 (n - 0 + 1) 0 (by omega) (Nat.lt_succ_self _)
set_option maxRecDepth 100000 in
set_option maxHeartbeats 400000 in
theorem c_X7_init {l : Launch} {D : va_G} {k : Nat → ClassId} (o7 : Nat) (h : Nat)  : CM l D k yX7_init cX7_init 2 none  2 33 [.ref o7, .ref h] [(o7, .inr (11, [.null, .null, .null]))] (fun rv9 w9 => rv9 = none ∧ ∃ (r1 : Nat) (a1 : Nat) (r2 : Nat) (a2 : Nat), w9 = [(o7, .inr (11, [.ref h, .ref r1, .ref r2])), (r1, .inr (12, [.ref a1])), (a1, aI k 6 (fun _ => 0)), (r2, .inr (12, [.ref a2])), (a2, aI k 6 (fun _ => 0))]) 4 14 4 := by
  refine CM.of (lv0 := [(0, .ref o7), (1, .ref h)]) (by decide +kernel) (Nat.le_of_ble_eq_true rfl) rfl ?_
  intro p e s m below meth c C hr hlk hin had
  refine g_aload_n (pc := 0) C 0 rfl rfl dX7_init_0 ?_
  refine g_obj (pc := 1) C q_77 q_2 q_3 (Nat.le_of_ble_eq_true rfl) (Nat.le_of_ble_eq_true rfl) dX7_init_1 ?_
  refine g_aload_n (pc := 4) C 0 rfl rfl dX7_init_4 ?_
  refine g_new (pc := 5) (ci := 12) (cells := 0) (slots := 0) (g := 0) C [.null] (T := TX8) inX8 tyX8 tyX8_ok q_78 q_29 q_6 rfl (fun j hj => by rcases (show j = 0 by omega) with rfl <;> rfl) (Nat.le_of_ble_eq_true rfl) (Nat.le_of_ble_eq_true rfl) dX7_init_5 (fun q1 => ?_)
  refine G.eqw (ws' := [(o7, .inr (11, [.null, .null, .null])), (q1, .inr (12, [.null]))]) rfl ?_
  refine g_dup (pc := 8) C rfl dX7_init_8 ?_
  refine g_bipush (pc := 9) (v := 6) C (by decide) dX7_init_9 ?_
  refine g_callI (pc := 11) (cells := 1) (slots := 1) (g := 1) (As := [.int 6]) (st := [.ref q1, .ref o7]) C (nA := 1) rfl (c_X8_init_6 q1 ) q_79 q_33 q_6 q_31 rfl rfl (by decide +kernel) dX7_init_11 ⟨Nat.le_of_ble_eq_true rfl, Nat.le_of_ble_eq_true rfl⟩ [1] [0] rfl (wr := [(o7, .inr (11, [.null, .null, .null]))]) rfl (by decide) (by decide) (by decide) (Nat.le_of_ble_eq_true rfl) ⟨Nat.le_of_ble_eq_true rfl, Nat.le_of_ble_eq_true rfl⟩ (fun rv w1 h1 => ?_)
  obtain ⟨rfl, q2, rfl⟩ := h1
  refine G.aft [0, 1, 2] (ws' := [(o7, .inr (11, [.null, .null, .null])), (q1, .inr (12, [.ref q2])), (q2, aI k 6 (fun _ => 0))]) (st' := [.ref q1, .ref o7]) (cells' := 2) (slots' := 7) (g' := 2) (by decide) rfl rfl rfl rfl rfl ?_
  refine g_putF (pc := 14) C (T := TX7) inX7 0 rfl rfl 1 (by decide) q_80 rfl tyX7 tyX7_ok nmX7 rfl hin rfl [(o7, .inr (11, [.null, .ref q1, .null])), (q1, .inr (12, [.ref q2])), (q2, aI k 6 (fun _ => 0))] (tyX7_ok 1 (by decide)) rfl rfl (Nat.le_of_ble_eq_true rfl) rfl dX7_init_14 ?_
  refine g_aload_n (pc := 17) C 0 rfl rfl dX7_init_17 ?_
  refine g_new (pc := 18) (ci := 12) (cells := 2) (slots := 7) (g := 2) C [.null] (T := TX8) inX8 tyX8 tyX8_ok q_78 q_29 q_6 rfl (fun j hj => by rcases (show j = 0 by omega) with rfl <;> rfl) (Nat.le_of_ble_eq_true rfl) (Nat.le_of_ble_eq_true rfl) dX7_init_18 (fun q3 => ?_)
  refine G.eqw (ws' := [(o7, .inr (11, [.null, .ref q1, .null])), (q1, .inr (12, [.ref q2])), (q2, aI k 6 (fun _ => 0)), (q3, .inr (12, [.null]))]) rfl ?_
  refine g_dup (pc := 21) C rfl dX7_init_21 ?_
  refine g_bipush (pc := 22) (v := 6) C (by decide) dX7_init_22 ?_
  refine g_callI (pc := 24) (cells := 3) (slots := 8) (g := 3) (As := [.int 6]) (st := [.ref q3, .ref o7]) C (nA := 1) rfl (c_X8_init_6 q3 ) q_79 q_33 q_6 q_31 rfl rfl (by decide +kernel) dX7_init_24 ⟨Nat.le_of_ble_eq_true rfl, Nat.le_of_ble_eq_true rfl⟩ [3] [0, 1, 2] rfl (wr := [(o7, .inr (11, [.null, .ref q1, .null])), (q1, .inr (12, [.ref q2])), (q2, aI k 6 (fun _ => 0))]) rfl (by decide) (by decide) (by decide) (Nat.le_of_ble_eq_true rfl) ⟨Nat.le_of_ble_eq_true rfl, Nat.le_of_ble_eq_true rfl⟩ (fun rv w1 h1 => ?_)
  obtain ⟨rfl, q4, rfl⟩ := h1
  refine G.aft [0, 1, 2, 3, 4] (ws' := [(o7, .inr (11, [.null, .ref q1, .null])), (q1, .inr (12, [.ref q2])), (q2, aI k 6 (fun _ => 0)), (q3, .inr (12, [.ref q4])), (q4, aI k 6 (fun _ => 0))]) (st' := [.ref q3, .ref o7]) (cells' := 4) (slots' := 14) (g' := 4) (by decide) rfl rfl rfl rfl rfl ?_
  refine g_putF (pc := 27) C (T := TX7) inX7 0 rfl rfl 2 (by decide) q_81 rfl tyX7 tyX7_ok nmX7 rfl hin rfl [(o7, .inr (11, [.null, .ref q1, .ref q3])), (q1, .inr (12, [.ref q2])), (q2, aI k 6 (fun _ => 0)), (q3, .inr (12, [.ref q4])), (q4, aI k 6 (fun _ => 0))] (tyX7_ok 2 (by decide)) rfl rfl (Nat.le_of_ble_eq_true rfl) rfl dX7_init_27 ?_
  refine g_aload_n (pc := 30) C 0 rfl rfl dX7_init_30 ?_
  refine g_aload_n (pc := 31) C 1 rfl rfl dX7_init_31 ?_
  refine g_putF (pc := 32) C (T := TX7) inX7 0 rfl rfl 0 (by decide) q_82 rfl tyX7 tyX7_ok nmX7 rfl hin rfl [(o7, .inr (11, [.ref h, .ref q1, .ref q3])), (q1, .inr (12, [.ref q2])), (q2, aI k 6 (fun _ => 0)), (q3, .inr (12, [.ref q4])), (q4, aI k 6 (fun _ => 0))] (tyX7_ok 0 (by decide)) rfl rfl (Nat.le_of_ble_eq_true rfl) rfl dX7_init_32 ?_
  exact g_vret (pc := 35) C hr hlk (by first | decide | omega) (by first | decide | omega) (by first | decide | omega) dX7_init_35 ⟨rfl, q1, q2, q3, q4, rfl⟩
set_option maxRecDepth 100000 in
set_option maxHeartbeats 400000 in
theorem c_X7_clear {l : Launch} {D : va_G} {k : Nat → ClassId} (o7 : Nat) (h : Nat) (s1 : Nat) (b1 : Nat) (s2 : Nat) (b2 : Nat) (f7 : Nat → Int32) (g7 : Nat → Int32)  : CM l D k yX7_clear cX7_clear 1 none  1 22 [.ref o7] [(o7, .inr (11, [.ref h, .ref s1, .ref s2])), (s1, .inr (12, [.ref b1])), (b1, aI k 6 f7), (s2, .inr (12, [.ref b2])), (b2, aI k 6 g7)] (is1 none [(o7, .inr (11, [.ref h, .ref s1, .ref s2])), (s1, .inr (12, [.ref b1])), (b1, aI k 6 (fun _ => 0)), (s2, .inr (12, [.ref b2])), (b2, aI k 6 (fun _ => 0))]) 0 0 0 := by
  refine CM.of (lv0 := [(0, .ref o7)]) (by decide +kernel) (Nat.le_of_ble_eq_true rfl) rfl ?_
  intro p e s m below meth c C hr hlk hin had
  refine g_aload_n (pc := 0) C 0 rfl rfl dX7_clear_0 ?_
  refine g_get (pc := 1) C (T := TX7) inX7 0 rfl rfl 1 (by decide) q_80 rfl rfl dX7_clear_1 ?_
  refine g_iconst (pc := 4) (v := 0) C (by decide) dX7_clear_4 ?_
  refine g_callV (pc := 5) (cells := 0) (slots := 0) (g := 0) (As := [.int 0]) (st := []) (T := TX8) (q0 := 1) C (nA := 1) rfl (c_X8_fill s1 b1 6 f7 0 (by first | assumption | decide | omega)) q_83 q_41 q_39 q_6 q_38 (by decide +kernel) rfl rfl dX7_clear_5 ⟨Nat.le_of_ble_eq_true rfl, Nat.le_of_ble_eq_true rfl⟩ [1, 2] [0, 3, 4] rfl (wr := [(o7, .inr (11, [.ref h, .ref s1, .ref s2])), (s2, .inr (12, [.ref b2])), (b2, aI k 6 g7)]) rfl (by decide) (by decide) (by decide) (Nat.le_of_ble_eq_true rfl) ⟨Nat.le_of_ble_eq_true rfl, Nat.le_of_ble_eq_true rfl⟩ (fun rv w1 h1 => ?_)
  obtain ⟨rfl, rfl⟩ := h1
  refine G.aft [0, 3, 4, 1, 2] (ws' := [(o7, .inr (11, [.ref h, .ref s1, .ref s2])), (s1, .inr (12, [.ref b1])), (b1, aI k 6 (fun _ => 0)), (s2, .inr (12, [.ref b2])), (b2, aI k 6 g7)]) (st' := []) (cells' := 0) (slots' := 0) (g' := 0) (by decide) rfl rfl rfl rfl rfl ?_
  refine g_aload_n (pc := 8) C 0 rfl rfl dX7_clear_8 ?_
  refine g_get (pc := 9) C (T := TX7) inX7 0 rfl rfl 2 (by decide) q_81 rfl rfl dX7_clear_9 ?_
  refine g_iconst (pc := 12) (v := 0) C (by decide) dX7_clear_12 ?_
  refine g_callV (pc := 13) (cells := 0) (slots := 0) (g := 0) (As := [.int 0]) (st := []) (T := TX8) (q0 := 3) C (nA := 1) rfl (c_X8_fill s2 b2 6 g7 0 (by first | assumption | decide | omega)) q_83 q_41 q_39 q_6 q_38 (by decide +kernel) rfl rfl dX7_clear_13 ⟨Nat.le_of_ble_eq_true rfl, Nat.le_of_ble_eq_true rfl⟩ [3, 4] [0, 1, 2] rfl (wr := [(o7, .inr (11, [.ref h, .ref s1, .ref s2])), (s1, .inr (12, [.ref b1])), (b1, aI k 6 (fun _ => 0))]) rfl (by decide) (by decide) (by decide) (Nat.le_of_ble_eq_true rfl) ⟨Nat.le_of_ble_eq_true rfl, Nat.le_of_ble_eq_true rfl⟩ (fun rv w1 h1 => ?_)
  obtain ⟨rfl, rfl⟩ := h1
  refine G.aft [0, 1, 2, 3, 4] (ws' := [(o7, .inr (11, [.ref h, .ref s1, .ref s2])), (s1, .inr (12, [.ref b1])), (b1, aI k 6 (fun _ => 0)), (s2, .inr (12, [.ref b2])), (b2, aI k 6 (fun _ => 0))]) (st' := []) (cells' := 0) (slots' := 0) (g' := 0) (by decide) rfl rfl rfl rfl rfl ?_
  exact g_vret (pc := 16) C hr hlk (by first | decide | omega) (by first | decide | omega) (by first | decide | omega) dX7_clear_16 ⟨rfl, rfl⟩
set_option maxRecDepth 100000 in
set_option maxHeartbeats 400000 in
theorem c_X0_clear {l : Launch} {D : va_G} {k : Nat → ClassId} (o0 : Nat) (h : Nat) (o2 : Nat) (t1 : Nat) (t2 : Nat) (t3 : Nat) (t4 : Nat) (t5 : Nat) (u1 : Nat) (f0 : Nat → Int32)  : CM l D k yX0_clear cX0_clear 1 none  1 22 [.ref o0] [(o0, .inr (4, [.ref h, .ref o2, .ref t1, .ref t2, .ref t3, .ref t4, .ref t5])), (t1, .inr (12, [.ref u1])), (u1, aI k 6 f0)] (is1 none [(o0, .inr (4, [.ref h, .ref o2, .ref t1, .ref t2, .ref t3, .ref t4, .ref t5])), (t1, .inr (12, [.ref u1])), (u1, aI k 6 (fun _ => 0))]) 0 0 0 := by
  refine CM.of (lv0 := [(0, .ref o0)]) (by decide +kernel) (Nat.le_of_ble_eq_true rfl) rfl ?_
  intro p e s m below meth c C hr hlk hin had
  refine g_aload_n (pc := 0) C 0 rfl rfl dX0_clear_0 ?_
  refine g_get (pc := 1) C (T := TX0) inX0 0 rfl rfl 2 (by decide) q_84 rfl rfl dX0_clear_1 ?_
  refine g_iconst (pc := 4) (v := 0) C (by decide) dX0_clear_4 ?_
  refine g_callV (pc := 5) (cells := 0) (slots := 0) (g := 0) (As := [.int 0]) (st := []) (T := TX8) (q0 := 1) C (nA := 1) rfl (c_X8_fill t1 u1 6 f0 0 (by first | assumption | decide | omega)) q_85 q_41 q_39 q_6 q_38 (by decide +kernel) rfl rfl dX0_clear_5 ⟨Nat.le_of_ble_eq_true rfl, Nat.le_of_ble_eq_true rfl⟩ [1, 2] [0] rfl (wr := [(o0, .inr (4, [.ref h, .ref o2, .ref t1, .ref t2, .ref t3, .ref t4, .ref t5]))]) rfl (by decide) (by decide) (by decide) (Nat.le_of_ble_eq_true rfl) ⟨Nat.le_of_ble_eq_true rfl, Nat.le_of_ble_eq_true rfl⟩ (fun rv w1 h1 => ?_)
  obtain ⟨rfl, rfl⟩ := h1
  refine G.aft [0, 1, 2] (ws' := [(o0, .inr (4, [.ref h, .ref o2, .ref t1, .ref t2, .ref t3, .ref t4, .ref t5])), (t1, .inr (12, [.ref u1])), (u1, aI k 6 (fun _ => 0))]) (st' := []) (cells' := 0) (slots' := 0) (g' := 0) (by decide) rfl rfl rfl rfl rfl ?_
  exact g_vret (pc := 8) C hr hlk (by first | decide | omega) (by first | decide | omega) (by first | decide | omega) dX0_clear_8 ⟨rfl, rfl⟩
