theorem dJ6_bitCount_0f7a4_0 : decode cJ6_bitCount_0f7a4 0 = .ok (.iload_n 0, 1) := by decide +kernel
theorem dJ6_bitCount_0f7a4_1 : decode cJ6_bitCount_0f7a4 1 = .ok (.iload_n 0, 1) := by decide +kernel
theorem dJ6_bitCount_0f7a4_2 : decode cJ6_bitCount_0f7a4 2 = .ok (.iconst 1, 1) := by decide +kernel
theorem dJ6_bitCount_0f7a4_3 : decode cJ6_bitCount_0f7a4 3 = .ok (.iushr, 1) := by decide +kernel
theorem dJ6_bitCount_0f7a4_4 : decode cJ6_bitCount_0f7a4 4 = .ok (.ldc_w 265, 3) := by decide +kernel
theorem q_252 : (Jvm.Cond.constant "java/lang/Integer" (265 : Nat) (1431655765 : Int32)) ∈ WG := wg_5 (List.mem_of_getElem? (i := 48) (by decide +kernel)) (by decide +kernel)
theorem dJ6_bitCount_0f7a4_7 : decode cJ6_bitCount_0f7a4 7 = .ok (.iand, 1) := by decide +kernel
theorem dJ6_bitCount_0f7a4_8 : decode cJ6_bitCount_0f7a4 8 = .ok (.isub, 1) := by decide +kernel
theorem dJ6_bitCount_0f7a4_9 : decode cJ6_bitCount_0f7a4 9 = .ok (.istore_n 0, 1) := by decide +kernel
theorem dJ6_bitCount_0f7a4_10 : decode cJ6_bitCount_0f7a4 10 = .ok (.iload_n 0, 1) := by decide +kernel
theorem dJ6_bitCount_0f7a4_11 : decode cJ6_bitCount_0f7a4 11 = .ok (.ldc_w 266, 3) := by decide +kernel
theorem q_253 : (Jvm.Cond.constant "java/lang/Integer" (266 : Nat) (858993459 : Int32)) ∈ WG := wg_5 (List.mem_of_getElem? (i := 49) (by decide +kernel)) (by decide +kernel)
theorem dJ6_bitCount_0f7a4_14 : decode cJ6_bitCount_0f7a4 14 = .ok (.iand, 1) := by decide +kernel
theorem dJ6_bitCount_0f7a4_15 : decode cJ6_bitCount_0f7a4 15 = .ok (.iload_n 0, 1) := by decide +kernel
theorem dJ6_bitCount_0f7a4_16 : decode cJ6_bitCount_0f7a4 16 = .ok (.iconst 2, 1) := by decide +kernel
theorem dJ6_bitCount_0f7a4_17 : decode cJ6_bitCount_0f7a4 17 = .ok (.iushr, 1) := by decide +kernel
theorem dJ6_bitCount_0f7a4_18 : decode cJ6_bitCount_0f7a4 18 = .ok (.ldc_w 266, 3) := by decide +kernel
theorem dJ6_bitCount_0f7a4_21 : decode cJ6_bitCount_0f7a4 21 = .ok (.iand, 1) := by decide +kernel
theorem dJ6_bitCount_0f7a4_22 : decode cJ6_bitCount_0f7a4 22 = .ok (.iadd, 1) := by decide +kernel
theorem dJ6_bitCount_0f7a4_23 : decode cJ6_bitCount_0f7a4 23 = .ok (.istore_n 0, 1) := by decide +kernel
theorem dJ6_bitCount_0f7a4_24 : decode cJ6_bitCount_0f7a4 24 = .ok (.iload_n 0, 1) := by decide +kernel
theorem dJ6_bitCount_0f7a4_25 : decode cJ6_bitCount_0f7a4 25 = .ok (.iload_n 0, 1) := by decide +kernel
theorem dJ6_bitCount_0f7a4_26 : decode cJ6_bitCount_0f7a4 26 = .ok (.iconst 4, 1) := by decide +kernel
theorem dJ6_bitCount_0f7a4_27 : decode cJ6_bitCount_0f7a4 27 = .ok (.iushr, 1) := by decide +kernel
theorem dJ6_bitCount_0f7a4_28 : decode cJ6_bitCount_0f7a4 28 = .ok (.iadd, 1) := by decide +kernel
theorem dJ6_bitCount_0f7a4_29 : decode cJ6_bitCount_0f7a4 29 = .ok (.ldc_w 267, 3) := by decide +kernel
theorem q_254 : (Jvm.Cond.constant "java/lang/Integer" (267 : Nat) (252645135 : Int32)) ∈ WG := wg_5 (List.mem_of_getElem? (i := 50) (by decide +kernel)) (by decide +kernel)
theorem dJ6_bitCount_0f7a4_32 : decode cJ6_bitCount_0f7a4 32 = .ok (.iand, 1) := by decide +kernel
theorem dJ6_bitCount_0f7a4_33 : decode cJ6_bitCount_0f7a4 33 = .ok (.istore_n 0, 1) := by decide +kernel
theorem dJ6_bitCount_0f7a4_34 : decode cJ6_bitCount_0f7a4 34 = .ok (.iload_n 0, 1) := by decide +kernel
theorem dJ6_bitCount_0f7a4_35 : decode cJ6_bitCount_0f7a4 35 = .ok (.iload_n 0, 1) := by decide +kernel
theorem dJ6_bitCount_0f7a4_36 : decode cJ6_bitCount_0f7a4 36 = .ok (.bipush 8, 2) := by decide +kernel
theorem dJ6_bitCount_0f7a4_38 : decode cJ6_bitCount_0f7a4 38 = .ok (.iushr, 1) := by decide +kernel
theorem dJ6_bitCount_0f7a4_39 : decode cJ6_bitCount_0f7a4 39 = .ok (.iadd, 1) := by decide +kernel
theorem dJ6_bitCount_0f7a4_40 : decode cJ6_bitCount_0f7a4 40 = .ok (.istore_n 0, 1) := by decide +kernel
theorem dJ6_bitCount_0f7a4_41 : decode cJ6_bitCount_0f7a4 41 = .ok (.iload_n 0, 1) := by decide +kernel
theorem dJ6_bitCount_0f7a4_42 : decode cJ6_bitCount_0f7a4 42 = .ok (.iload_n 0, 1) := by decide +kernel
theorem dJ6_bitCount_0f7a4_43 : decode cJ6_bitCount_0f7a4 43 = .ok (.bipush 16, 2) := by decide +kernel
theorem dJ6_bitCount_0f7a4_45 : decode cJ6_bitCount_0f7a4 45 = .ok (.iushr, 1) := by decide +kernel
theorem dJ6_bitCount_0f7a4_46 : decode cJ6_bitCount_0f7a4 46 = .ok (.iadd, 1) := by decide +kernel
theorem dJ6_bitCount_0f7a4_47 : decode cJ6_bitCount_0f7a4 47 = .ok (.istore_n 0, 1) := by decide +kernel
theorem dJ6_bitCount_0f7a4_48 : decode cJ6_bitCount_0f7a4 48 = .ok (.iload_n 0, 1) := by decide +kernel
theorem dJ6_bitCount_0f7a4_49 : decode cJ6_bitCount_0f7a4 49 = .ok (.bipush 63, 2) := by decide +kernel
theorem dJ6_bitCount_0f7a4_51 : decode cJ6_bitCount_0f7a4 51 = .ok (.iand, 1) := by decide +kernel
theorem dJ6_bitCount_0f7a4_52 : decode cJ6_bitCount_0f7a4 52 = .ok (.ireturn, 1) := by decide +kernel
theorem dX4_entry_0 : decode cX4_entry 0 = .ok (.aload_n 0, 1) := by decide +kernel
theorem dX4_entry_1 : decode cX4_entry 1 = .ok (.getfield 27, 3) := by decide +kernel
theorem dX4_entry_4 : decode cX4_entry 4 = .ok (.iload_n 1, 1) := by decide +kernel
theorem dX4_entry_5 : decode cX4_entry 5 = .ok (.invokevirtual 31, 3) := by decide +kernel
theorem q_255 : (Jvm.Cond.code ({ cls := "Chipfold$Graph", name := "otherAt", desc := "(I)I" } : Jvm.MethodName) prog_5_method_14_code (2 : Nat) (Option.some Jvm.ClassFile.FieldType.int)) ∈ WG := wg_3 (List.mem_of_getElem? (i := 210) rfl) rfl
theorem q_256 : (Jvm.Cond.selects "Chipfold$Graph" ({ cls := "Chipfold$Graph", name := "otherAt", desc := "(I)I" } : Jvm.MethodName) ({ cls := "Chipfold$Graph", name := "otherAt", desc := "(I)I" } : Jvm.MethodName)) ∈ WG := wg_3 (List.mem_of_getElem? (i := 209) (by decide +kernel)) (by decide +kernel)
theorem q_257 : (Jvm.Cond.methodLink "Chipfold$Group" (31 : Nat) ({ cls := "Chipfold$Graph", name := "otherAt", desc := "(I)I" } : Jvm.MethodName)) ∈ WG := wg_3 (List.mem_of_getElem? (i := 207) (by decide +kernel)) (by decide +kernel)
theorem q_258 : (Jvm.Cond.instanceMethod ({ cls := "Chipfold$Graph", name := "otherAt", desc := "(I)I" } : Jvm.MethodName)) ∈ WG := wg_3 (List.mem_of_getElem? (i := 208) (by decide +kernel)) (by decide +kernel)
theorem dX4_entry_8 : decode cX4_entry 8 = .ok (.istore_n 3, 1) := by decide +kernel
theorem dX4_entry_9 : decode cX4_entry 9 = .ok (.iload_n 1, 1) := by decide +kernel
theorem dX4_entry_10 : decode cX4_entry 10 = .ok (.iload_n 2, 1) := by decide +kernel
theorem dX4_entry_11 : decode cX4_entry 11 = .ok (.if_icmp .ne 14, 3) := by decide +kernel
theorem dX4_entry_25 : decode cX4_entry 25 = .ok (.aload_n 0, 1) := by decide +kernel
theorem dX4_entry_26 : decode cX4_entry 26 = .ok (.getfield 27, 3) := by decide +kernel
theorem dX4_entry_29 : decode cX4_entry 29 = .ok (.iload_n 3, 1) := by decide +kernel
theorem dX4_entry_30 : decode cX4_entry 30 = .ok (.aload_n 0, 1) := by decide +kernel
theorem dX4_entry_31 : decode cX4_entry 31 = .ok (.getfield 27, 3) := by decide +kernel
theorem dX4_entry_34 : decode cX4_entry 34 = .ok (.iload_n 2, 1) := by decide +kernel
theorem dX4_entry_35 : decode cX4_entry 35 = .ok (.invokevirtual 31, 3) := by decide +kernel
theorem dX4_entry_38 : decode cX4_entry 38 = .ok (.invokevirtual 40, 3) := by decide +kernel
theorem q_259 : (Jvm.Cond.methodLink "Chipfold$Group" (40 : Nat) ({ cls := "Chipfold$Graph", name := "between", desc := "(II)I" } : Jvm.MethodName)) ∈ WG := wg_3 (List.mem_of_getElem? (i := 212) (by decide +kernel)) (by decide +kernel)
theorem dX4_entry_41 : decode cX4_entry 41 = .ok (.ineg, 1) := by decide +kernel
theorem dX4_entry_42 : decode cX4_entry 42 = .ok (.ireturn, 1) := by decide +kernel
theorem dX4_entry_14 : decode cX4_entry 14 = .ok (.aload_n 0, 1) := by decide +kernel
theorem dX4_entry_15 : decode cX4_entry 15 = .ok (.getfield 27, 3) := by decide +kernel
theorem dX4_entry_18 : decode cX4_entry 18 = .ok (.iload_n 3, 1) := by decide +kernel
theorem dX4_entry_19 : decode cX4_entry 19 = .ok (.invokevirtual 37, 3) := by decide +kernel
theorem q_260 : (Jvm.Cond.methodLink "Chipfold$Group" (37 : Nat) ({ cls := "Chipfold$Graph", name := "degreeOf", desc := "(I)I" } : Jvm.MethodName)) ∈ WG := wg_3 (List.mem_of_getElem? (i := 211) (by decide +kernel)) (by decide +kernel)
theorem dX4_entry_22 : decode cX4_entry 22 = .ok (.goto 20, 3) := by decide +kernel
theorem dX4_minor_0 : decode cX4_minor 0 = .ok (.iconst 0, 1) := by decide +kernel
theorem dX4_minor_1 : decode cX4_minor 1 = .ok (.istore_n 3, 1) := by decide +kernel
theorem dX4_minor_2 : decode cX4_minor 2 = .ok (.iconst 0, 1) := by decide +kernel
theorem dX4_minor_3 : decode cX4_minor 3 = .ok (.istore 4, 2) := by decide +kernel
theorem dX4_minor_5 : decode cX4_minor 5 = .ok (.iload 4, 2) := by decide +kernel
theorem dX4_minor_7 : decode cX4_minor 7 = .ok (.aload_n 0, 1) := by decide +kernel
theorem dX4_minor_8 : decode cX4_minor 8 = .ok (.getfield 27, 3) := by decide +kernel
theorem dX4_minor_11 : decode cX4_minor 11 = .ok (.invokevirtual 44, 3) := by decide +kernel
theorem q_261 : (Jvm.Cond.code ({ cls := "Chipfold$Graph", name := "others", desc := "()I" } : Jvm.MethodName) prog_5_method_13_code (1 : Nat) (Option.some Jvm.ClassFile.FieldType.int)) ∈ WG := wg_3 (List.mem_of_getElem? (i := 197) rfl) rfl
theorem q_262 : (Jvm.Cond.selects "Chipfold$Graph" ({ cls := "Chipfold$Graph", name := "others", desc := "()I" } : Jvm.MethodName) ({ cls := "Chipfold$Graph", name := "others", desc := "()I" } : Jvm.MethodName)) ∈ WG := wg_3 (List.mem_of_getElem? (i := 196) (by decide +kernel)) (by decide +kernel)
theorem q_263 : (Jvm.Cond.methodLink "Chipfold$Group" (44 : Nat) ({ cls := "Chipfold$Graph", name := "others", desc := "()I" } : Jvm.MethodName)) ∈ WG := wg_3 (List.mem_of_getElem? (i := 194) (by decide +kernel)) (by decide +kernel)
theorem q_264 : (Jvm.Cond.instanceMethod ({ cls := "Chipfold$Graph", name := "others", desc := "()I" } : Jvm.MethodName)) ∈ WG := wg_3 (List.mem_of_getElem? (i := 195) (by decide +kernel)) (by decide +kernel)
theorem dX4_minor_14 : decode cX4_minor 14 = .ok (.if_icmp .ge 78, 3) := by decide +kernel
theorem dX4_minor_92 : decode cX4_minor 92 = .ok (.aload_n 0, 1) := by decide +kernel
theorem dX4_minor_93 : decode cX4_minor 93 = .ok (.getfield 12, 3) := by decide +kernel
theorem dX4_minor_96 : decode cX4_minor 96 = .ok (.iload_n 3, 1) := by decide +kernel
theorem dX4_minor_97 : decode cX4_minor 97 = .ok (.invokevirtual 55, 3) := by decide +kernel
theorem q_265 : (Jvm.Cond.code ({ cls := "Chipfold$Matrix", name := "determinant", desc := "(I)J" } : Jvm.MethodName) prog_7_method_4_code (8 : Nat) (Option.some Jvm.ClassFile.FieldType.long)) ∈ WG := wg_3 (List.mem_of_getElem? (i := 220) rfl) rfl
theorem q_266 : (Jvm.Cond.selects "Chipfold$Matrix" ({ cls := "Chipfold$Matrix", name := "determinant", desc := "(I)J" } : Jvm.MethodName) ({ cls := "Chipfold$Matrix", name := "determinant", desc := "(I)J" } : Jvm.MethodName)) ∈ WG := wg_3 (List.mem_of_getElem? (i := 219) (by decide +kernel)) (by decide +kernel)
theorem q_267 : (Jvm.Cond.methodLink "Chipfold$Group" (55 : Nat) ({ cls := "Chipfold$Matrix", name := "determinant", desc := "(I)J" } : Jvm.MethodName)) ∈ WG := wg_3 (List.mem_of_getElem? (i := 217) (by decide +kernel)) (by decide +kernel)
theorem q_268 : (Jvm.Cond.instanceMethod ({ cls := "Chipfold$Matrix", name := "determinant", desc := "(I)J" } : Jvm.MethodName)) ∈ WG := wg_3 (List.mem_of_getElem? (i := 218) (by decide +kernel)) (by decide +kernel)
theorem dX4_minor_100 : decode cX4_minor 100 = .ok (.lreturn, 1) := by decide +kernel
theorem dX4_minor_17 : decode cX4_minor 17 = .ok (.iload_n 1, 1) := by decide +kernel
theorem dX4_minor_18 : decode cX4_minor 18 = .ok (.iload 4, 2) := by decide +kernel
theorem dX4_minor_20 : decode cX4_minor 20 = .ok (.ishr, 1) := by decide +kernel
theorem dX4_minor_21 : decode cX4_minor 21 = .ok (.iconst 1, 1) := by decide +kernel
theorem dX4_minor_22 : decode cX4_minor 22 = .ok (.iand, 1) := by decide +kernel
theorem dX4_minor_23 : decode cX4_minor 23 = .ok (.iconst 1, 1) := by decide +kernel
theorem dX4_minor_24 : decode cX4_minor 24 = .ok (.if_icmp .ne 62, 3) := by decide +kernel
theorem dX4_minor_86 : decode cX4_minor 86 = .ok (.iinc 4 1, 3) := by decide +kernel
theorem dX4_minor_89 : decode cX4_minor 89 = .ok (.goto (-84), 3) := by decide +kernel
theorem dX4_minor_27 : decode cX4_minor 27 = .ok (.iconst 0, 1) := by decide +kernel
theorem dX4_minor_28 : decode cX4_minor 28 = .ok (.istore 5, 2) := by decide +kernel
theorem dX4_minor_30 : decode cX4_minor 30 = .ok (.iconst 0, 1) := by decide +kernel
theorem dX4_minor_31 : decode cX4_minor 31 = .ok (.istore 6, 2) := by decide +kernel
theorem dX4_minor_33 : decode cX4_minor 33 = .ok (.iload 6, 2) := by decide +kernel
theorem dX4_minor_35 : decode cX4_minor 35 = .ok (.aload_n 0, 1) := by decide +kernel
theorem dX4_minor_36 : decode cX4_minor 36 = .ok (.getfield 27, 3) := by decide +kernel
theorem dX4_minor_39 : decode cX4_minor 39 = .ok (.invokevirtual 44, 3) := by decide +kernel
theorem dX4_minor_42 : decode cX4_minor 42 = .ok (.if_icmp .ge 41, 3) := by decide +kernel
theorem dX4_minor_83 : decode cX4_minor 83 = .ok (.iinc 3 1, 3) := by decide +kernel
theorem dX4_minor_45 : decode cX4_minor 45 = .ok (.iload_n 2, 1) := by decide +kernel
theorem dX4_minor_46 : decode cX4_minor 46 = .ok (.iload 6, 2) := by decide +kernel
theorem dX4_minor_48 : decode cX4_minor 48 = .ok (.ishr, 1) := by decide +kernel
theorem dX4_minor_49 : decode cX4_minor 49 = .ok (.iconst 1, 1) := by decide +kernel
theorem dX4_minor_50 : decode cX4_minor 50 = .ok (.iand, 1) := by decide +kernel
theorem dX4_minor_51 : decode cX4_minor 51 = .ok (.iconst 1, 1) := by decide +kernel
theorem dX4_minor_52 : decode cX4_minor 52 = .ok (.if_icmp .ne 25, 3) := by decide +kernel
theorem dX4_minor_77 : decode cX4_minor 77 = .ok (.iinc 6 1, 3) := by decide +kernel
theorem dX4_minor_80 : decode cX4_minor 80 = .ok (.goto (-47), 3) := by decide +kernel
theorem dX4_minor_55 : decode cX4_minor 55 = .ok (.aload_n 0, 1) := by decide +kernel
theorem dX4_minor_56 : decode cX4_minor 56 = .ok (.getfield 12, 3) := by decide +kernel
theorem dX4_minor_59 : decode cX4_minor 59 = .ok (.iload_n 3, 1) := by decide +kernel
theorem dX4_minor_60 : decode cX4_minor 60 = .ok (.iload 5, 2) := by decide +kernel
theorem dX4_minor_62 : decode cX4_minor 62 = .ok (.aload_n 0, 1) := by decide +kernel
theorem dX4_minor_63 : decode cX4_minor 63 = .ok (.iload 4, 2) := by decide +kernel
theorem dX4_minor_65 : decode cX4_minor 65 = .ok (.iload 6, 2) := by decide +kernel
theorem dX4_minor_67 : decode cX4_minor 67 = .ok (.invokevirtual 48, 3) := by decide +kernel
theorem q_269 : (Jvm.Cond.code ({ cls := "Chipfold$Group", name := "entry", desc := "(II)I" } : Jvm.MethodName) prog_6_method_2_code (4 : Nat) (Option.some Jvm.ClassFile.FieldType.int)) ∈ WG := wg_3 (List.mem_of_getElem? (i := 206) rfl) rfl
theorem q_270 : (Jvm.Cond.selects "Chipfold$Group" ({ cls := "Chipfold$Group", name := "entry", desc := "(II)I" } : Jvm.MethodName) ({ cls := "Chipfold$Group", name := "entry", desc := "(II)I" } : Jvm.MethodName)) ∈ WG := wg_0 (by decide +kernel) (by decide +kernel)
theorem q_271 : (Jvm.Cond.methodLink "Chipfold$Group" (48 : Nat) ({ cls := "Chipfold$Group", name := "entry", desc := "(II)I" } : Jvm.MethodName)) ∈ WG := wg_3 (List.mem_of_getElem? (i := 203) (by decide +kernel)) (by decide +kernel)
theorem q_272 : (Jvm.Cond.instanceMethod ({ cls := "Chipfold$Group", name := "entry", desc := "(II)I" } : Jvm.MethodName)) ∈ WG := wg_3 (List.mem_of_getElem? (i := 205) (by decide +kernel)) (by decide +kernel)
theorem dX4_minor_70 : decode cX4_minor 70 = .ok (.i2l, 1) := by decide +kernel
theorem dX4_minor_71 : decode cX4_minor 71 = .ok (.invokevirtual 51, 3) := by decide +kernel
theorem q_273 : (Jvm.Cond.methodLink "Chipfold$Group" (51 : Nat) ({ cls := "Chipfold$Matrix", name := "write", desc := "(IIJ)V" } : Jvm.MethodName)) ∈ WG := wg_3 (List.mem_of_getElem? (i := 213) (by decide +kernel)) (by decide +kernel)
theorem dX4_minor_74 : decode cX4_minor 74 = .ok (.iinc 5 1, 3) := by decide +kernel
theorem dX4_treeNumber_0 : decode cX4_treeNumber 0 = .ok (.iconst 1, 1) := by decide +kernel
theorem dX4_treeNumber_1 : decode cX4_treeNumber 1 = .ok (.aload_n 0, 1) := by decide +kernel
theorem dX4_treeNumber_2 : decode cX4_treeNumber 2 = .ok (.getfield 27, 3) := by decide +kernel
theorem dX4_treeNumber_5 : decode cX4_treeNumber 5 = .ok (.invokevirtual 44, 3) := by decide +kernel
theorem dX4_treeNumber_8 : decode cX4_treeNumber 8 = .ok (.ishl, 1) := by decide +kernel
theorem dX4_treeNumber_9 : decode cX4_treeNumber 9 = .ok (.iconst 1, 1) := by decide +kernel
theorem dX4_treeNumber_10 : decode cX4_treeNumber 10 = .ok (.isub, 1) := by decide +kernel
theorem dX4_treeNumber_11 : decode cX4_treeNumber 11 = .ok (.istore_n 1, 1) := by decide +kernel
theorem dX4_treeNumber_12 : decode cX4_treeNumber 12 = .ok (.aload_n 0, 1) := by decide +kernel
theorem dX4_treeNumber_13 : decode cX4_treeNumber 13 = .ok (.getfield 27, 3) := by decide +kernel
theorem dX4_treeNumber_16 : decode cX4_treeNumber 16 = .ok (.invokevirtual 59, 3) := by decide +kernel
theorem q_274 : (Jvm.Cond.methodLink "Chipfold$Group" (59 : Nat) ({ cls := "Chipfold$Graph", name := "size", desc := "()I" } : Jvm.MethodName)) ∈ WG := wg_3 (List.mem_of_getElem? (i := 198) (by decide +kernel)) (by decide +kernel)
theorem dX4_treeNumber_19 : decode cX4_treeNumber 19 = .ok (.ifCond .ne 7, 3) := by decide +kernel
theorem dX4_treeNumber_26 : decode cX4_treeNumber 26 = .ok (.aload_n 0, 1) := by decide +kernel
theorem dX4_treeNumber_27 : decode cX4_treeNumber 27 = .ok (.iload_n 1, 1) := by decide +kernel
theorem dX4_treeNumber_28 : decode cX4_treeNumber 28 = .ok (.iload_n 1, 1) := by decide +kernel
theorem dX4_treeNumber_29 : decode cX4_treeNumber 29 = .ok (.invokevirtual 62, 3) := by decide +kernel
theorem q_275 : (Jvm.Cond.code ({ cls := "Chipfold$Group", name := "minor", desc := "(II)J" } : Jvm.MethodName) prog_6_method_3_code (7 : Nat) (Option.some Jvm.ClassFile.FieldType.long)) ∈ WG := wg_3 (List.mem_of_getElem? (i := 202) rfl) rfl
theorem q_276 : (Jvm.Cond.selects "Chipfold$Group" ({ cls := "Chipfold$Group", name := "minor", desc := "(II)J" } : Jvm.MethodName) ({ cls := "Chipfold$Group", name := "minor", desc := "(II)J" } : Jvm.MethodName)) ∈ WG := wg_0 (by decide +kernel) (by decide +kernel)
theorem q_277 : (Jvm.Cond.methodLink "Chipfold$Group" (62 : Nat) ({ cls := "Chipfold$Group", name := "minor", desc := "(II)J" } : Jvm.MethodName)) ∈ WG := wg_3 (List.mem_of_getElem? (i := 199) (by decide +kernel)) (by decide +kernel)
theorem q_278 : (Jvm.Cond.instanceMethod ({ cls := "Chipfold$Group", name := "minor", desc := "(II)J" } : Jvm.MethodName)) ∈ WG := wg_3 (List.mem_of_getElem? (i := 201) (by decide +kernel)) (by decide +kernel)
theorem dX4_treeNumber_32 : decode cX4_treeNumber 32 = .ok (.lreturn, 1) := by decide +kernel
theorem dX4_commonDivisor_0 : decode cX4_commonDivisor 0 = .ok (.lload_n 0, 1) := by decide +kernel
theorem dX4_commonDivisor_1 : decode cX4_commonDivisor 1 = .ok (.invokestatic 95, 3) := by decide +kernel
theorem q_279 : (Jvm.Cond.methodLink "Chipfold$Group" (95 : Nat) ({ cls := "java/lang/Math", name := "abs", desc := "(J)J" } : Jvm.MethodName)) ∈ WG := wg_4 (List.mem_of_getElem? (i := 6) (by decide +kernel)) (by decide +kernel)
theorem q_280 : (Jvm.Cond.static ({ cls := "java/lang/Math", name := "abs", desc := "(J)J" } : Jvm.MethodName)) ∈ WG := wg_4 (List.mem_of_getElem? (i := 7) (by decide +kernel)) (by decide +kernel)
theorem q_281 : (Jvm.Cond.code ({ cls := "java/lang/Math", name := "abs", desc := "(J)J" } : Jvm.MethodName) prog_22_method_61_code (2 : Nat) (Option.some Jvm.ClassFile.FieldType.long)) ∈ WG := wg_4 (List.mem_of_getElem? (i := 8) rfl) rfl
theorem dX4_commonDivisor_4 : decode cX4_commonDivisor 4 = .ok (.lstore 4, 2) := by decide +kernel
theorem dX4_commonDivisor_6 : decode cX4_commonDivisor 6 = .ok (.lload_n 2, 1) := by decide +kernel
theorem dX4_commonDivisor_7 : decode cX4_commonDivisor 7 = .ok (.invokestatic 95, 3) := by decide +kernel
theorem dX4_commonDivisor_10 : decode cX4_commonDivisor 10 = .ok (.lstore 6, 2) := by decide +kernel
theorem dX4_commonDivisor_12 : decode cX4_commonDivisor 12 = .ok (.iconst 0, 1) := by decide +kernel
theorem dX4_commonDivisor_13 : decode cX4_commonDivisor 13 = .ok (.istore 8, 2) := by decide +kernel
theorem dX4_commonDivisor_15 : decode cX4_commonDivisor 15 = .ok (.iload 8, 2) := by decide +kernel
theorem dX4_commonDivisor_17 : decode cX4_commonDivisor 17 = .ok (.ldc 101, 2) := by decide +kernel
theorem q_282 : (Jvm.Cond.constant "Chipfold$Group" (101 : Nat) (1000000 : Int32)) ∈ WG := wg_4 (List.mem_of_getElem? (i := 9) (by decide +kernel)) (by decide +kernel)
theorem dX4_commonDivisor_19 : decode cX4_commonDivisor 19 = .ok (.if_icmp .ge 31, 3) := by decide +kernel
theorem dX4_commonDivisor_50 : decode cX4_commonDivisor 50 = .ok (.lload 4, 2) := by decide +kernel
theorem dX4_commonDivisor_52 : decode cX4_commonDivisor 52 = .ok (.lreturn, 1) := by decide +kernel
theorem dX4_commonDivisor_22 : decode cX4_commonDivisor 22 = .ok (.lload 6, 2) := by decide +kernel
theorem dX4_commonDivisor_24 : decode cX4_commonDivisor 24 = .ok (.lconst 0, 1) := by decide +kernel
theorem dX4_commonDivisor_25 : decode cX4_commonDivisor 25 = .ok (.lcmp, 1) := by decide +kernel
theorem dX4_commonDivisor_26 : decode cX4_commonDivisor 26 = .ok (.ifCond .eq 24, 3) := by decide +kernel
theorem dX4_commonDivisor_29 : decode cX4_commonDivisor 29 = .ok (.lload 4, 2) := by decide +kernel
theorem dX4_commonDivisor_31 : decode cX4_commonDivisor 31 = .ok (.lload 6, 2) := by decide +kernel
theorem dX4_commonDivisor_33 : decode cX4_commonDivisor 33 = .ok (.lrem, 1) := by decide +kernel
theorem dX4_commonDivisor_34 : decode cX4_commonDivisor 34 = .ok (.lstore 9, 2) := by decide +kernel
theorem dX4_commonDivisor_36 : decode cX4_commonDivisor 36 = .ok (.lload 6, 2) := by decide +kernel
theorem dX4_commonDivisor_38 : decode cX4_commonDivisor 38 = .ok (.lstore 4, 2) := by decide +kernel
theorem dX4_commonDivisor_40 : decode cX4_commonDivisor 40 = .ok (.lload 9, 2) := by decide +kernel
theorem dX4_commonDivisor_42 : decode cX4_commonDivisor 42 = .ok (.lstore 6, 2) := by decide +kernel
theorem dX4_commonDivisor_44 : decode cX4_commonDivisor 44 = .ok (.iinc 8 1, 3) := by decide +kernel
theorem dX4_commonDivisor_47 : decode cX4_commonDivisor 47 = .ok (.goto (-32), 3) := by decide +kernel
/-- how many bits are set, as the JDK counts -/
def bcA (x : Int32) : Int32 := x - (usr x 1 &&& 1431655765)
def bcB (x : Int32) : Int32 := (bcA x &&& 858993459) + (usr (bcA x) 2 &&& 858993459)
def bcC (x : Int32) : Int32 := (bcB x + usr (bcB x) 4) &&& 252645135
def bcD (x : Int32) : Int32 := bcC x + usr (bcC x) 8
def bcE (x : Int32) : Int32 := bcD x + usr (bcD x) 16
def bcI (x : Int32) : Int32 := bcE x &&& 63
set_option maxRecDepth 100000 in
set_option maxHeartbeats 400000 in
theorem c_J6_bitCount_0f7a4 {l : Launch} {D : va_G} {k : Nat → ClassId} (x : Int32)  : CM l D k yJ6_bitCount_0f7a4 cJ6_bitCount_0f7a4 1 (some .int)  0 0 [.int x] [] (is1 (some (.int (bcI x))) []) 0 0 0 := by
  refine CM.of (lv0 := [(0, .int x)]) (by decide +kernel) (Nat.le_of_ble_eq_true rfl) rfl ?_
  intro p9 e9 s9 m9 bl9 me9 co9 C hr hlk hin had
  refine g_iload_n (pc := 0) C 0 rfl rfl dJ6_bitCount_0f7a4_0 ?_
  refine g_iload_n (pc := 1) C 0 rfl rfl dJ6_bitCount_0f7a4_1 ?_
  refine g_iconst (pc := 2) (v := 1) C (by decide) dJ6_bitCount_0f7a4_2 ?_
  refine g_iushr (pc := 3) C dJ6_bitCount_0f7a4_3 ?_
  refine g_ldcw (pc := 4) C (v := 1431655765) q_252 dJ6_bitCount_0f7a4_4 ?_
  refine g_iand (pc := 7) C dJ6_bitCount_0f7a4_7 ?_
  refine g_isub (pc := 8) C dJ6_bitCount_0f7a4_8 ?_
  refine g_istore_n (pc := 9) C [(0, .int (x - ((usr x 1) &&& 1431655765)))] rfl dJ6_bitCount_0f7a4_9 (by decide) rfl ?_
  refine G.eql (lv' := [(0, .int (bcA x))]) (congrArg (β := List (Nat × Value)) (fun z9 => [(0, .int z9)]) (show ((x - ((usr x 1) &&& 1431655765)) : Int32) = (bcA x) from by rfl)) ?_
  refine g_iload_n (pc := 10) C 0 rfl rfl dJ6_bitCount_0f7a4_10 ?_
  refine g_ldcw (pc := 11) C (v := 858993459) q_253 dJ6_bitCount_0f7a4_11 ?_
  refine g_iand (pc := 14) C dJ6_bitCount_0f7a4_14 ?_
  refine g_iload_n (pc := 15) C 0 rfl rfl dJ6_bitCount_0f7a4_15 ?_
  refine g_iconst (pc := 16) (v := 2) C (by decide) dJ6_bitCount_0f7a4_16 ?_
  refine g_iushr (pc := 17) C dJ6_bitCount_0f7a4_17 ?_
  refine g_ldcw (pc := 18) C (v := 858993459) q_253 dJ6_bitCount_0f7a4_18 ?_
  refine g_iand (pc := 21) C dJ6_bitCount_0f7a4_21 ?_
  refine g_iadd (pc := 22) C dJ6_bitCount_0f7a4_22 ?_
  refine g_istore_n (pc := 23) C [(0, .int (((bcA x) &&& 858993459) + ((usr (bcA x) 2) &&& 858993459)))] rfl dJ6_bitCount_0f7a4_23 (by decide) rfl ?_
  refine G.eql (lv' := [(0, .int (bcB x))]) (congrArg (β := List (Nat × Value)) (fun z9 => [(0, .int z9)]) (show ((((bcA x) &&& 858993459) + ((usr (bcA x) 2) &&& 858993459)) : Int32) = (bcB x) from by rfl)) ?_
  refine g_iload_n (pc := 24) C 0 rfl rfl dJ6_bitCount_0f7a4_24 ?_
  refine g_iload_n (pc := 25) C 0 rfl rfl dJ6_bitCount_0f7a4_25 ?_
  refine g_iconst (pc := 26) (v := 4) C (by decide) dJ6_bitCount_0f7a4_26 ?_
  refine g_iushr (pc := 27) C dJ6_bitCount_0f7a4_27 ?_
  refine g_iadd (pc := 28) C dJ6_bitCount_0f7a4_28 ?_
  refine g_ldcw (pc := 29) C (v := 252645135) q_254 dJ6_bitCount_0f7a4_29 ?_
  refine g_iand (pc := 32) C dJ6_bitCount_0f7a4_32 ?_
  refine g_istore_n (pc := 33) C [(0, .int (((bcB x) + (usr (bcB x) 4)) &&& 252645135))] rfl dJ6_bitCount_0f7a4_33 (by decide) rfl ?_
  refine G.eql (lv' := [(0, .int (bcC x))]) (congrArg (β := List (Nat × Value)) (fun z9 => [(0, .int z9)]) (show ((((bcB x) + (usr (bcB x) 4)) &&& 252645135) : Int32) = (bcC x) from by rfl)) ?_
  refine g_iload_n (pc := 34) C 0 rfl rfl dJ6_bitCount_0f7a4_34 ?_
  refine g_iload_n (pc := 35) C 0 rfl rfl dJ6_bitCount_0f7a4_35 ?_
  refine g_bipush (pc := 36) (v := 8) C (by decide) dJ6_bitCount_0f7a4_36 ?_
  refine g_iushr (pc := 38) C dJ6_bitCount_0f7a4_38 ?_
  refine g_iadd (pc := 39) C dJ6_bitCount_0f7a4_39 ?_
  refine g_istore_n (pc := 40) C [(0, .int ((bcC x) + (usr (bcC x) 8)))] rfl dJ6_bitCount_0f7a4_40 (by decide) rfl ?_
  refine G.eql (lv' := [(0, .int (bcD x))]) (congrArg (β := List (Nat × Value)) (fun z9 => [(0, .int z9)]) (show (((bcC x) + (usr (bcC x) 8)) : Int32) = (bcD x) from by rfl)) ?_
  refine g_iload_n (pc := 41) C 0 rfl rfl dJ6_bitCount_0f7a4_41 ?_
  refine g_iload_n (pc := 42) C 0 rfl rfl dJ6_bitCount_0f7a4_42 ?_
  refine g_bipush (pc := 43) (v := 16) C (by decide) dJ6_bitCount_0f7a4_43 ?_
  refine g_iushr (pc := 45) C dJ6_bitCount_0f7a4_45 ?_
  refine g_iadd (pc := 46) C dJ6_bitCount_0f7a4_46 ?_
  refine g_istore_n (pc := 47) C [(0, .int ((bcD x) + (usr (bcD x) 16)))] rfl dJ6_bitCount_0f7a4_47 (by decide) rfl ?_
  refine G.eql (lv' := [(0, .int (bcE x))]) (congrArg (β := List (Nat × Value)) (fun z9 => [(0, .int z9)]) (show (((bcD x) + (usr (bcD x) 16)) : Int32) = (bcE x) from by rfl)) ?_
  refine g_iload_n (pc := 48) C 0 rfl rfl dJ6_bitCount_0f7a4_48 ?_
  refine g_bipush (pc := 49) (v := 63) C (by decide) dJ6_bitCount_0f7a4_49 ?_
  refine g_iand (pc := 51) C dJ6_bitCount_0f7a4_51 ?_
  refine G.eqs (st' := [.int (bcI x)]) (congrArg (fun z9 => [Value.int z9]) (show (((bcE x) &&& 63) : Int32) = (bcI x) from by rfl)) ?_
  exact g_iret (pc := 52) C hr hlk (by first | decide | omega) (by first | decide | omega) (by first | decide | omega) dJ6_bitCount_0f7a4_52 ⟨rfl, rfl⟩
theorem skp_n {z i n : Nat} (h : i + 1 < n) : skp z i < n := by
  have := skp_lt (j := z) (show i < n - 1 by omega)
  omega
theorem skp_6 {z i n : Nat} (hn : n ≤ 6) (h : i + 1 < n) : skp z i < 6 := Nat.lt_of_lt_of_le (skp_n h) hn
theorem skp_m {z i n : Nat} (h1 : 1 ≤ n) (h : i < n - 1) : skp z i < n := skp_n (by omega)
/-- a number of the matrix of the others -/
def entI (fj fd : Nat → Int32) (z i j : Nat) : Int32 := if i = j then fd (skp z i) else -(fj (skp z i * 6 + skp z j))
set_option maxRecDepth 100000 in
set_option maxHeartbeats 400000 in
theorem c_X4_entry {l : Launch} {D : va_G} {k : Nat → ClassId} (h : Nat) (jj : Nat) (dd : Nat) (n : Nat) (z : Nat) (fj : Nat → Int32) (fd : Nat → Int32) (o4 : Nat) (m1 : Nat) (m2 : Nat) (i : Nat) (j : Nat) (hn : n ≤ 6) (hz : z < n) (hi : i + 1 < n) (hj : j + 1 < n) : CM l D k yX4_entry cX4_entry 4 (some .int)  1 23 [.ref o4, .int (nI i), .int (nI j)] [(o4, .inr (6, [.ref h, .ref m1, .ref m2])), (h, .inr (5, [.ref jj, .ref dd, .int (nI n), .int (nI z)])), (jj, aI k 36 fj), (dd, aI k 6 fd)] (is1 (some (.int (entI fj fd z i j))) [(o4, .inr (6, [.ref h, .ref m1, .ref m2])), (h, .inr (5, [.ref jj, .ref dd, .int (nI n), .int (nI z)])), (jj, aI k 36 fj), (dd, aI k 6 fd)]) 0 0 0 := by
  refine CM.of (lv0 := [(0, .ref o4), (1, .int (nI i)), (2, .int (nI j))]) (by decide +kernel) (Nat.le_of_ble_eq_true rfl) rfl ?_
  intro p9 e9 s9 m9 bl9 me9 co9 C hr hlk hin had
  refine g_aload_n (pc := 0) C 0 rfl rfl dX4_entry_0 ?_
  refine g_get (pc := 1) C (T := TX4) inX4 0 rfl rfl 0 (by decide) q_122 rfl rfl dX4_entry_1 ?_
  refine g_iload_n (pc := 4) C 1 rfl rfl dX4_entry_4 ?_
  refine g_callV (pc := 5) (cells := 0) (slots := 0) (g := 0) (As := [.int (nI i)]) (st := []) (T := TX3) (q0 := 1) C (nA := 1) rfl (c_X3_otherAt h jj dd n z fj fd i (by first | assumption | decide | omega) (by first | assumption | decide | omega)) q_257 q_258 q_256 q_16 q_255 (by decide +kernel) rfl rfl dX4_entry_5 ⟨Nat.le_of_ble_eq_true rfl, Nat.le_of_ble_eq_true rfl⟩ [1, 2, 3] [0] rfl (wr := [(o4, .inr (6, [.ref h, .ref m1, .ref m2]))]) rfl (by decide) (by decide) (by decide) (Nat.le_of_ble_eq_true rfl) ⟨Nat.le_of_ble_eq_true rfl, Nat.le_of_ble_eq_true rfl⟩ (fun rv w1 h1 => ?_)
  obtain ⟨rfl, rfl⟩ := h1
  refine G.aft [0, 1, 2, 3] (ws' := [(o4, .inr (6, [.ref h, .ref m1, .ref m2])), (h, .inr (5, [.ref jj, .ref dd, .int (nI n), .int (nI z)])), (jj, aI k 36 fj), (dd, aI k 6 fd)]) (st' := [.int (nI (skp z i))]) (cells' := 0) (slots' := 0) (g' := 0) (by decide) rfl rfl rfl rfl rfl ?_
  refine g_istore_n (pc := 8) C [(3, .int (nI (skp z i))), (0, .ref o4), (1, .int (nI i)), (2, .int (nI j))] rfl dX4_entry_8 (by decide) rfl ?_
  refine g_iload_n (pc := 9) C 2 rfl rfl dX4_entry_9 ?_
  refine g_iload_n (pc := 10) C 3 rfl rfl dX4_entry_10 ?_
  refine g_icmp_ne (pc := 11) C 25 (by decide) dX4_entry_11 (fun c_11 => ?_) (fun c_11 => ?_)
  · refine g_aload_n (pc := 25) C 1 rfl rfl dX4_entry_25 ?_
    refine g_get (pc := 26) C (T := TX4) inX4 0 rfl rfl 0 (by decide) q_122 rfl rfl dX4_entry_26 ?_
    refine g_iload_n (pc := 29) C 0 rfl rfl dX4_entry_29 ?_
    refine g_aload_n (pc := 30) C 1 rfl rfl dX4_entry_30 ?_
    refine g_get (pc := 31) C (T := TX4) inX4 0 rfl rfl 0 (by decide) q_122 rfl rfl dX4_entry_31 ?_
    refine g_iload_n (pc := 34) C 3 rfl rfl dX4_entry_34 ?_
    refine g_callV (pc := 35) (cells := 0) (slots := 0) (g := 0) (As := [.int (nI j)]) (st := [.int (nI (skp z i)), .ref h]) (T := TX3) (q0 := 1) C (nA := 1) rfl (c_X3_otherAt h jj dd n z fj fd j (by first | assumption | decide | omega) (by first | assumption | decide | omega)) q_257 q_258 q_256 q_16 q_255 (by decide +kernel) rfl rfl dX4_entry_35 ⟨Nat.le_of_ble_eq_true rfl, Nat.le_of_ble_eq_true rfl⟩ [1, 2, 3] [0] rfl (wr := [(o4, .inr (6, [.ref h, .ref m1, .ref m2]))]) rfl (by decide) (by decide) (by decide) (Nat.le_of_ble_eq_true rfl) ⟨Nat.le_of_ble_eq_true rfl, Nat.le_of_ble_eq_true rfl⟩ (fun rv w1 h1 => ?_)
    obtain ⟨rfl, rfl⟩ := h1
    refine G.aft [0, 1, 2, 3] (ws' := [(o4, .inr (6, [.ref h, .ref m1, .ref m2])), (h, .inr (5, [.ref jj, .ref dd, .int (nI n), .int (nI z)])), (jj, aI k 36 fj), (dd, aI k 6 fd)]) (st' := [.int (nI (skp z j)), .int (nI (skp z i)), .ref h]) (cells' := 0) (slots' := 0) (g' := 0) (by decide) rfl rfl rfl rfl rfl ?_
    refine g_callV (pc := 38) (cells := 0) (slots := 0) (g := 0) (As := [.int (nI (skp z i)), .int (nI (skp z j))]) (st := []) (T := TX3) (q0 := 1) C (nA := 2) rfl (c_X3_between h jj dd n z fj fd (skp z i) (skp z j) (by first | assumption | decide | omega) (by first | exact skp_n (by omega) | exact skp_6 hn (by omega)) (by first | exact skp_n (by omega) | exact skp_6 hn (by omega))) q_259 q_23 q_21 q_16 q_20 (by decide +kernel) rfl rfl dX4_entry_38 ⟨Nat.le_of_ble_eq_true rfl, Nat.le_of_ble_eq_true rfl⟩ [1, 2, 3] [0] rfl (wr := [(o4, .inr (6, [.ref h, .ref m1, .ref m2]))]) rfl (by decide) (by decide) (by decide) (Nat.le_of_ble_eq_true rfl) ⟨Nat.le_of_ble_eq_true rfl, Nat.le_of_ble_eq_true rfl⟩ (fun rv w1 h1 => ?_)
    obtain ⟨rfl, rfl⟩ := h1
    refine G.aft [0, 1, 2, 3] (ws' := [(o4, .inr (6, [.ref h, .ref m1, .ref m2])), (h, .inr (5, [.ref jj, .ref dd, .int (nI n), .int (nI z)])), (jj, aI k 36 fj), (dd, aI k 6 fd)]) (st' := [.int (fj ((skp z i) * 6 + (skp z j)))]) (cells' := 0) (slots' := 0) (g' := 0) (by decide) rfl rfl rfl rfl rfl ?_
    refine g_ineg (pc := 41) C dX4_entry_41 ?_
    refine G.eqs (st' := [.int (entI fj fd z i j)]) (congrArg (fun z9 => [Value.int z9]) (show ((-(fj ((skp z i) * 6 + (skp z j)))) : Int32) = (entI fj fd z i j) from by first | (rw [entI, if_pos ((nI_eq (by omega) (by omega)).mp c_11)]) | (rw [entI, if_neg (fun q => c_11 (by rw [q]))]))) ?_
    exact g_iret (pc := 42) C hr hlk (by first | decide | omega) (by first | decide | omega) (by first | decide | omega) dX4_entry_42 ⟨rfl, rfl⟩
  · refine g_aload_n (pc := 14) C 1 rfl rfl dX4_entry_14 ?_
    refine g_get (pc := 15) C (T := TX4) inX4 0 rfl rfl 0 (by decide) q_122 rfl rfl dX4_entry_15 ?_
    refine g_iload_n (pc := 18) C 0 rfl rfl dX4_entry_18 ?_
    refine g_callV (pc := 19) (cells := 0) (slots := 0) (g := 0) (As := [.int (nI (skp z i))]) (st := []) (T := TX3) (q0 := 1) C (nA := 1) rfl (c_X3_degreeOf h jj dd n z fj fd (skp z i) (by first | exact skp_n (by omega) | exact skp_6 hn (by omega))) q_260 q_63 q_61 q_16 q_60 (by decide +kernel) rfl rfl dX4_entry_19 ⟨Nat.le_of_ble_eq_true rfl, Nat.le_of_ble_eq_true rfl⟩ [1, 2, 3] [0] rfl (wr := [(o4, .inr (6, [.ref h, .ref m1, .ref m2]))]) rfl (by decide) (by decide) (by decide) (Nat.le_of_ble_eq_true rfl) ⟨Nat.le_of_ble_eq_true rfl, Nat.le_of_ble_eq_true rfl⟩ (fun rv w1 h1 => ?_)
    obtain ⟨rfl, rfl⟩ := h1
    refine G.aft [0, 1, 2, 3] (ws' := [(o4, .inr (6, [.ref h, .ref m1, .ref m2])), (h, .inr (5, [.ref jj, .ref dd, .int (nI n), .int (nI z)])), (jj, aI k 36 fj), (dd, aI k 6 fd)]) (st' := [.int (fd (skp z i))]) (cells' := 0) (slots' := 0) (g' := 0) (by decide) rfl rfl rfl rfl rfl ?_
    refine g_goto (pc := 22) C 42 (by decide) dX4_entry_22 ?_
    refine G.eqs (st' := [.int (entI fj fd z i j)]) (congrArg (fun z9 => [Value.int z9]) (show ((fd (skp z i)) : Int32) = (entI fj fd z i j) from by first | (rw [entI, if_pos ((nI_eq (by omega) (by omega)).mp c_11)]) | (rw [entI, if_neg (fun q => c_11 (by rw [q]))]))) ?_
    exact g_iret (pc := 42) C hr hlk (by first | decide | omega) (by first | decide | omega) (by first | decide | omega) dX4_entry_42 ⟨rfl, rfl⟩
/-- a minor of the matrix of the others: rows and columns as bits -/
def bitI (S : Int32) (i : Nat) : Bool := decide (((S >>> (nI i &&& 31)) &&& 1) = 1)
def pcI (S : Int32) : Nat → Nat
  | 0 => 0
  | i + 1 => if bitI S i = true then pcI S i + 1 else pcI S i
theorem pcI_le (S : Int32) : ∀ i, pcI S i ≤ i
  | 0 => Nat.le_refl _
  | i + 1 => by
    have := pcI_le S i
    unfold pcI
    split <;> omega
theorem pcI_y {S : Int32} {i : Nat} (h : ((S >>> (nI i &&& 31)) &&& 1) = 1) : pcI S (i + 1) = pcI S i + 1 := if_pos (decide_eq_true h)
theorem pcI_n {S : Int32} {i : Nat} (h : ¬ ((S >>> (nI i &&& 31)) &&& 1) = 1) : pcI S (i + 1) = pcI S i := if_neg (by unfold bitI; rw [decide_eq_false h]; decide)
def mnC (fj fd : Nat → Int32) (z : Nat) (Ca : Int32) (r i : Nat) (M : Nat → Int64) : Nat → Nat → Int64
  | 0 => M
  | j + 1 => if bitI Ca j = true then vp_updL (mnC fj fd z Ca r i M j) (r * 5 + pcI Ca j) (entI fj fd z i j).toInt64 else mnC fj fd z Ca r i M j
def mnR (fj fd : Nat → Int32) (z m : Nat) (Ra Ca : Int32) (M : Nat → Int64) : Nat → Nat → Int64
  | 0 => M
  | i + 1 => if bitI Ra i = true then mnC fj fd z Ca (pcI Ra i) i (mnR fj fd z m Ra Ca M i) m else mnR fj fd z m Ra Ca M i
theorem mnC_y {fj fd : Nat → Int32} {z : Nat} {Ca : Int32} {r i j : Nat} {M : Nat → Int64} (h : ((Ca >>> (nI j &&& 31)) &&& 1) = 1) : mnC fj fd z Ca r i M (j + 1) = vp_updL (mnC fj fd z Ca r i M j) (r * 5 + pcI Ca j) (entI fj fd z i j).toInt64 := if_pos (decide_eq_true h)
theorem mnC_n {fj fd : Nat → Int32} {z : Nat} {Ca : Int32} {r i j : Nat} {M : Nat → Int64} (h : ¬ ((Ca >>> (nI j &&& 31)) &&& 1) = 1) : mnC fj fd z Ca r i M (j + 1) = mnC fj fd z Ca r i M j := if_neg (by unfold bitI; rw [decide_eq_false h]; decide)
theorem mnR_y {fj fd : Nat → Int32} {z m : Nat} {Ra Ca : Int32} {i : Nat} {M : Nat → Int64} (h : ((Ra >>> (nI i &&& 31)) &&& 1) = 1) : mnR fj fd z m Ra Ca M (i + 1) = mnC fj fd z Ca (pcI Ra i) i (mnR fj fd z m Ra Ca M i) m := if_pos (decide_eq_true h)
theorem mnR_n {fj fd : Nat → Int32} {z m : Nat} {Ra Ca : Int32} {i : Nat} {M : Nat → Int64} (h : ¬ ((Ra >>> (nI i &&& 31)) &&& 1) = 1) : mnR fj fd z m Ra Ca M (i + 1) = mnR fj fd z m Ra Ca M i := if_neg (by unfold bitI; rw [decide_eq_false h]; decide)
def mnV (fj fd : Nat → Int32) (n z : Nat) (Ra Ca : Int32) : Int64 := dtV (pcI Ra (n - 1)) (mnR fj fd z (n - 1) Ra Ca (fun _ => 0) (n - 1))
/-- what the determinant reads -/
def EqM (s : Nat) (M N : Nat → Int64) : Prop := ∀ i j, i < s → j < s → M (i * 5 + j) = N (i * 5 + j)
theorem pvO_congr {s k : Nat} {M N : Nat → Int64} (hk : k < s) (h : EqM s M N) : pvO M k s = pvO N k s := by
  cases h1 : pvO N k s with
  | none =>
    have h2 := low_none.mp h1
    refine low_none.mpr fun v hv => ?_
    have := h2 v hv
    rw [h v k hv hk]
    exact this
  | some r =>
    have h2 := low_some.mp h1
    refine low_some.mpr ⟨h2.1, ?_, fun u hu => ?_⟩
    · rw [h r k h2.1 hk]; exact h2.2.1
    · rw [h u k (by omega) hk]; exact h2.2.2 u hu
theorem updL_congr {s i j : Nat} {M N : Nat → Int64} {x : Int64} (hs : s ≤ 5) (hi : i < s) (hj : j < s) (h : EqM s M N) : EqM s (vp_updL M (i * 5 + j) x) (vp_updL N (i * 5 + j) x) := fun a b ha hb => by
  by_cases q : a * 5 + b = i * 5 + j
  · rw [q, pk_uLs, pk_uLs]
  · rw [pk_uLn q, pk_uLn q, h a b ha hb]
theorem swM_congr {s r k : Nat} {M N : Nat → Int64} (hs : s ≤ 5) (hr : r < s) (hk : k < s) (h : EqM s M N) : ∀ c, c ≤ s → EqM s (swM M r k c) (swM N r k c)
  | 0, _ => h
  | c + 1, hc => by
    have ih := swM_congr hs hr hk h c (by omega)
    unfold swM
    rw [ih k c hk (by omega), ih r c hr (by omega)]
    exact updL_congr hs hk (by omega) (updL_congr hs hr (by omega) ih)
theorem clI_congr {s k r : Nat} {pb : Int64} {M N : Nat → Int64} (hs : s ≤ 5) (hr : r < s) (hk : k < s) (h : EqM s M N) : ∀ d, k + d < s → EqM s (clI k r pb M d) (clI k r pb N d)
  | 0, _ => h
  | d + 1, hd => by
    have ih := clI_congr (pb := pb) hs hr hk h d (by omega)
    unfold clI
    rw [ih r (k + 1 + d) hr (by omega), ih k k hk hk, ih r k hr hk, ih k (k + 1 + d) hk (by omega)]
    exact updL_congr hs hr (by omega) ih
theorem clO_congr {s k : Nat} {pb : Int64} {M N : Nat → Int64} (hs : s ≤ 5) (hk : k < s) (h : EqM s M N) : ∀ d, k + d < s → EqM s (clO k s pb M d) (clO k s pb N d)
  | 0, _ => h
  | d + 1, hd => clI_congr hs (by omega) hk (clO_congr hs hk h d (by omega)) _ (by omega)
theorem clr_congr {s k : Nat} {pb : Int64} {M N : Nat → Int64} (hs : s ≤ 5) (hk : k < s) (h : EqM s M N) : EqM s (clr k s pb M) (clr k s pb N) := by
  unfold clr
  by_cases q : pb = 0
  · rw [if_pos q, if_pos q]; exact h
  · rw [if_neg q, if_neg q]; exact clO_congr hs hk h _ (by omega)
theorem dtN_congr {s : Nat} {M N : Nat → Int64} (hs : s ≤ 5) (h : EqM s M N) : ∀ k, k ≤ s → (dtN s M k = none ∧ dtN s N k = none) ∨ ∃ T U, dtN s M k = some T ∧ dtN s N k = some U ∧ EqM s T.1 U.1 ∧ T.2 = U.2
  | 0, _ => Or.inr ⟨_, _, rfl, rfl, h, rfl⟩
  | k + 1, hk => by
    rcases dtN_congr hs h k (by omega) with ⟨h1, h2⟩ | ⟨T, U, h1, h2, h3, h4⟩
    · exact Or.inl ⟨dtN_none 1 h1, dtN_none 1 h2⟩
    have h5 := pvO_congr (k := k) (by omega) h3
    cases h6 : pvO U.1 k s with
    | none =>
      rw [h6] at h5
      have a1 : ∀ {X : (Nat → Int64) × Int64 × Int64}, pvO X.1 k s = none → dtS s k X = none := fun {X} q => by unfold dtS; rw [q]
      exact Or.inl ⟨by show (dtN s M k).bind _ = _; rw [h1]; exact a1 h5, by show (dtN s N k).bind _ = _; rw [h2]; exact a1 h6⟩
    | some r =>
      rw [h6] at h5
      have hr := (low_some.mp h6).1
      have e1 : T.2.1 = U.2.1 := by rw [h4]
      have e2 : T.2.2 = U.2.2 := by rw [h4]
      by_cases q : r = k
      · have hc := clr_congr (pb := T.2.2) hs (show k < s by omega) h3
        refine Or.inr ⟨_, _, dtN_s1 h1 h5 q, dtN_s1 h2 h6 q, ?_, ?_⟩
        · rw [← e2]; exact hc
        · show (_, _) = (_, _)
          rw [← e2, hc k k (by omega) (by omega), e1]
      · have hc := clr_congr (pb := T.2.2) hs (show k < s by omega) (swM_congr hs hr (show k < s by omega) h3 s (Nat.le_refl _))
        refine Or.inr ⟨_, _, dtN_s2 h1 h5 q, dtN_s2 h2 h6 q, ?_, ?_⟩
        · rw [← e2]; exact hc
        · show (_, _) = (_, _)
          rw [← e2, hc k k (by omega) (by omega), e1]
theorem dtV_congr {s : Nat} {M N : Nat → Int64} (hs : s ≤ 5) (h : EqM s M N) : dtV s M = dtV s N := by
  unfold dtV
  rcases dtN_congr hs h s (Nat.le_refl _) with ⟨h1, h2⟩ | ⟨T, U, h1, h2, h3, h4⟩
  · rw [h1, h2]
  · rw [h1, h2]
    show T.2.1 * T.2.2 = U.2.1 * U.2.2
    rw [h4]
/-- rows below r are alike, and row r up to column c -/
theorem mnC_congr {fj fd : Nat → Int32} {z : Nat} {Ca : Int32} {r i m : Nat} {M N : Nat → Int64} (hm : m ≤ 5) (h : ∀ a b, a < r → b < pcI Ca m → M (a * 5 + b) = N (a * 5 + b)) : ∀ j, j ≤ m → (∀ a b, a < r → b < pcI Ca m → mnC fj fd z Ca r i M j (a * 5 + b) = mnC fj fd z Ca r i N j (a * 5 + b)) ∧ ∀ b, b < pcI Ca j → mnC fj fd z Ca r i M j (r * 5 + b) = mnC fj fd z Ca r i N j (r * 5 + b)
  | 0, _ => ⟨h, fun b hb => absurd hb (Nat.not_lt_zero _)⟩
  | j + 1, hj => by
    obtain ⟨h1, h2⟩ := mnC_congr (i := i) (fj := fj) (fd := fd) (z := z) hm h j (by omega)
    by_cases q : ((Ca >>> (nI j &&& 31)) &&& 1) = 1
    · rw [mnC_y q, mnC_y q, pcI_y q]
      constructor
      · intro a b ha hb
        have hpm := pcI_le Ca m
        have hpj := pcI_le Ca j
        rw [pk_uLn (by omega), pk_uLn (by omega)]
        exact h1 a b ha hb
      · intro b hb
        by_cases qb : b = pcI Ca j
        · subst qb; rw [pk_uLs, pk_uLs]
        · rw [pk_uLn (by omega), pk_uLn (by omega)]
          exact h2 b (by omega)
    · rw [mnC_n q, mnC_n q, pcI_n q]
      exact ⟨h1, h2⟩
theorem mnR_congr {fj fd : Nat → Int32} {z m : Nat} {Ra Ca : Int32} (hm : m ≤ 5) (M N : Nat → Int64) : ∀ i, i ≤ m → ∀ a b, a < pcI Ra i → b < pcI Ca m → mnR fj fd z m Ra Ca M i (a * 5 + b) = mnR fj fd z m Ra Ca N i (a * 5 + b)
  | 0, _ => fun a b ha _ => absurd ha (Nat.not_lt_zero _)
  | i + 1, hi => by
    have ih := mnR_congr (Ra := Ra) (Ca := Ca) (fj := fj) (fd := fd) (z := z) hm M N i (by omega)
    by_cases q : ((Ra >>> (nI i &&& 31)) &&& 1) = 1
    · rw [mnR_y q, mnR_y q, pcI_y q]
      have h3 := mnC_congr (i := i) (fj := fj) (fd := fd) (z := z) hm ih m (Nat.le_refl _)
      intro a b ha hb
      by_cases qa : a < pcI Ra i
      · exact h3.1 a b qa hb
      · have : a = pcI Ra i := by omega
        subst this
        exact h3.2 b hb
    · rw [mnR_n q, mnR_n q, pcI_n q]
      exact ih
theorem mn_same {fj fd : Nat → Int32} {n z : Nat} {Ra Ca : Int32} (hn : n ≤ 6) (hpc : pcI Ra (n - 1) = pcI Ca (n - 1)) (M : Nat → Int64) : dtV (pcI Ra (n - 1)) (mnR fj fd z (n - 1) Ra Ca M (n - 1)) = mnV fj fd n z Ra Ca :=
  dtV_congr (by have := pcI_le Ra (n - 1); omega) fun i j hi hj => mnR_congr (by omega) M _ (n - 1) (Nat.le_refl _) i j hi (by rw [← hpc]; exact hj)

set_option maxRecDepth 100000 in
set_option maxHeartbeats 400000 in
theorem c_X4_minor {l : Launch} {D : va_G} {k : Nat → ClassId} (h : Nat) (jj : Nat) (dd : Nat) (n : Nat) (z : Nat) (fj : Nat → Int32) (fd : Nat → Int32) (o4 : Nat) (m1 : Nat) (m2 : Nat) (m3 : Nat) (fm : Nat → Int64) (Ra : Int32) (Ca : Int32) (hn : n ≤ 6) (hz : z < n) (h1 : 1 ≤ n) (hpc : pcI Ra (n - 1) = pcI Ca (n - 1)) : CM l D k yX4_minor cX4_minor 7 (some .long)  3 80 [.ref o4, .int Ra, .int Ca] [(o4, .inr (6, [.ref h, .ref m1, .ref m2])), (m1, .inr (7, [.ref m3])), (m3, aJ k 25 fm), (h, .inr (5, [.ref jj, .ref dd, .int (nI n), .int (nI z)])), (jj, aI k 36 fj), (dd, aI k 6 fd)] (fun rv9 w9 => rv9 = (some (.long (mnV fj fd n z Ra Ca))) ∧ ∃ (gm : Nat → Int64), w9 = [(o4, .inr (6, [.ref h, .ref m1, .ref m2])), (m1, .inr (7, [.ref m3])), (m3, aJ k 25 gm), (h, .inr (5, [.ref jj, .ref dd, .int (nI n), .int (nI z)])), (jj, aI k 36 fj), (dd, aI k 6 fd)]) 0 0 0 := by
  refine CM.of (lv0 := [(0, .ref o4), (1, .int Ra), (2, .int Ca)]) (by decide +kernel) (Nat.le_of_ble_eq_true rfl) rfl ?_
  intro p9 e9 s9 m9 bl9 me9 co9 C hr hlk hin had
  refine g_iconst (pc := 0) (v := 0) C (by decide) dX4_minor_0 ?_
  refine g_istore_n (pc := 1) C [(3, .int 0), (0, .ref o4), (1, .int Ra), (2, .int Ca)] rfl dX4_minor_1 (by decide) rfl ?_
  refine g_iconst (pc := 2) (v := 0) C (by decide) dX4_minor_2 ?_
  refine g_istore (pc := 3) C [(4, .int 0), (3, .int 0), (0, .ref o4), (1, .int Ra), (2, .int Ca)] dX4_minor_3 (by decide) rfl ?_
  have key_5 : ∀ (fuel : Nat) (i : Nat), i ≤ n - 1 → n - 1 - i < fuel → G p9 l e9 { frames := 3, cells := 0, slots := 0, locals := 80 } s9 m9 ([.ref o4, .int Ra, .int Ca] : List Value).toArray bl9 me9 co9 D 7 (va_A [(o4, .inr (6, [.ref h, .ref m1, .ref m2])), (m1, .inr (7, [.ref m3])), (m3, aJ k 25 fm), (h, .inr (5, [.ref jj, .ref dd, .int (nI n), .int (nI z)])), (jj, aI k 36 fj), (dd, aI k 6 fd)] s9.heap.size) (QM bl9 D ([.ref o4, .int Ra, .int Ca] : List Value).toArray s9 [(o4, .inr (6, [.ref h, .ref m1, .ref m2])), (m1, .inr (7, [.ref m3])), (m3, aJ k 25 fm), (h, .inr (5, [.ref jj, .ref dd, .int (nI n), .int (nI z)])), (jj, aI k 36 fj), (dd, aI k 6 fd)] (fun rv9 w9 => rv9 = (some (.long (mnV fj fd n z Ra Ca))) ∧ ∃ (gm : Nat → Int64), w9 = [(o4, .inr (6, [.ref h, .ref m1, .ref m2])), (m1, .inr (7, [.ref m3])), (m3, aJ k 25 gm), (h, .inr (5, [.ref jj, .ref dd, .int (nI n), .int (nI z)])), (jj, aI k 36 fj), (dd, aI k 6 fd)]) 0 0 0) [(o4, .inr (6, [.ref h, .ref m1, .ref m2])), (m1, .inr (7, [.ref m3])), (m3, aJ k 25 (mnR fj fd z (n - 1) Ra Ca fm i)), (h, .inr (5, [.ref jj, .ref dd, .int (nI n), .int (nI z)])), (jj, aI k 36 fj), (dd, aI k 6 fd)] [(0, .ref o4), (1, .int Ra), (2, .int Ca), (3, .int (nI (pcI Ra i))), (4, .int (nI i))] 0 0 0 5 [] := by
    intro fuel
    induction fuel with
    | zero => intro i hi hm; exact absurd hm (Nat.not_lt_zero _)
    | succ fuel ih =>
      intro i hi hm
      have ih_5 := ih
      refine g_iload (pc := 5) C 4 rfl dX4_minor_5 ?_
      refine g_aload_n (pc := 7) C 0 rfl rfl dX4_minor_7 ?_
      refine g_get (pc := 8) C (T := TX4) inX4 0 rfl rfl 0 (by decide) q_122 rfl rfl dX4_minor_8 ?_
      refine g_callV (pc := 11) (cells := 0) (slots := 0) (g := 0) (As := []) (st := [.int (nI i)]) (T := TX3) (q0 := 3) C (nA := 0) rfl (c_X3_others h jj dd n z fj fd (by first | assumption | decide | omega) (by first | assumption | decide | omega)) q_263 q_264 q_262 q_16 q_261 (by decide +kernel) rfl rfl dX4_minor_11 ⟨Nat.le_of_ble_eq_true rfl, Nat.le_of_ble_eq_true rfl⟩ [3, 4, 5] [0, 1, 2] rfl (wr := [(o4, .inr (6, [.ref h, .ref m1, .ref m2])), (m1, .inr (7, [.ref m3])), (m3, aJ k 25 (mnR fj fd z (n - 1) Ra Ca fm i))]) rfl (by decide) (by decide) (by decide) (Nat.le_of_ble_eq_true rfl) ⟨Nat.le_of_ble_eq_true rfl, Nat.le_of_ble_eq_true rfl⟩ (fun rv w1 h1 => ?_)
      obtain ⟨rfl, rfl⟩ := h1
      refine G.aft [0, 1, 2, 3, 4, 5] (ws' := [(o4, .inr (6, [.ref h, .ref m1, .ref m2])), (m1, .inr (7, [.ref m3])), (m3, aJ k 25 (mnR fj fd z (n - 1) Ra Ca fm i)), (h, .inr (5, [.ref jj, .ref dd, .int (nI n), .int (nI z)])), (jj, aI k 36 fj), (dd, aI k 6 fd)]) (st' := [.int (nI (n - 1)), .int (nI i)]) (cells' := 0) (slots' := 0) (g' := 0) (by decide) rfl rfl rfl rfl rfl ?_
      refine g_icmp_ge (pc := 14) C 92 (by decide) dX4_minor_14 (fun c_14 => ?_) (fun c_14 => ?_)
      · have h3 : i = n - 1 := by { have := nle_ge (b := n - 1) (a := i) (by omega) c_14; omega }
        have hpi := pcI_le Ra i
        refine G.fnJ (mnR fj fd z (n - 1) Ra Ca fm (n - 1)) 2 [(o4, .inr (6, [.ref h, .ref m1, .ref m2])), (m1, .inr (7, [.ref m3])), (m3, aJ k 25 (mnR fj fd z (n - 1) Ra Ca fm (n - 1))), (h, .inr (5, [.ref jj, .ref dd, .int (nI n), .int (nI z)])), (jj, aI k 36 fj), (dd, aI k 6 fd)] rfl (fun j hj => by rw [h3]) rfl ?_
        refine G.eql (lv' := [(0, .ref o4), (1, .int Ra), (2, .int Ca), (3, .int (nI (pcI Ra (n - 1)))), (4, .int (nI i))]) (congrArg (β := List (Nat × Value)) (fun z9 => [(0, .ref o4), (1, .int Ra), (2, .int Ca), (3, .int z9), (4, .int (nI i))]) (show ((nI (pcI Ra i)) : Int32) = (nI (pcI Ra (n - 1))) from by rw [h3])) ?_
        refine g_aload_n (pc := 92) C 0 rfl rfl dX4_minor_92 ?_
        refine g_get (pc := 93) C (T := TX4) inX4 0 rfl rfl 1 (by decide) q_118 rfl rfl dX4_minor_93 ?_
        refine g_iload_n (pc := 96) C 3 rfl rfl dX4_minor_96 ?_
        refine g_callV (pc := 97) (cells := 0) (slots := 0) (g := 0) (As := [.int (nI (pcI Ra (n - 1)))]) (st := []) (T := TX5) (q0 := 1) C (nA := 1) rfl (c_X5_determinant m1 m3 (mnR fj fd z (n - 1) Ra Ca fm (n - 1)) (pcI Ra (n - 1)) (by have := pcI_le Ra (n - 1); omega)) q_267 q_268 q_266 q_115 q_265 (by decide +kernel) rfl rfl dX4_minor_97 ⟨Nat.le_of_ble_eq_true rfl, Nat.le_of_ble_eq_true rfl⟩ [1, 2] [0, 3, 4, 5] rfl (wr := [(o4, .inr (6, [.ref h, .ref m1, .ref m2])), (h, .inr (5, [.ref jj, .ref dd, .int (nI n), .int (nI z)])), (jj, aI k 36 fj), (dd, aI k 6 fd)]) rfl (by decide) (by decide) (by decide) (Nat.le_of_ble_eq_true rfl) ⟨Nat.le_of_ble_eq_true rfl, Nat.le_of_ble_eq_true rfl⟩ (fun rv w1 h1 => ?_)
        obtain ⟨rfl, q1, rfl⟩ := h1
        refine G.aft [0, 4, 5, 1, 2, 3] (ws' := [(o4, .inr (6, [.ref h, .ref m1, .ref m2])), (m1, .inr (7, [.ref m3])), (m3, aJ k 25 q1), (h, .inr (5, [.ref jj, .ref dd, .int (nI n), .int (nI z)])), (jj, aI k 36 fj), (dd, aI k 6 fd)]) (st' := [.long (dtV (pcI Ra (n - 1)) (mnR fj fd z (n - 1) Ra Ca fm (n - 1)))]) (cells' := 0) (slots' := 0) (g' := 0) (by decide) rfl rfl rfl rfl rfl ?_
        refine G.eqs (st' := [.long (mnV fj fd n z Ra Ca)]) (congrArg (fun z9 => [Value.long z9]) (show ((dtV (pcI Ra (n - 1)) (mnR fj fd z (n - 1) Ra Ca fm (n - 1))) : Int64) = (mnV fj fd n z Ra Ca) from by exact mn_same hn hpc fm)) ?_
        exact g_lret (pc := 100) C hr hlk (by first | decide | omega) (by first | decide | omega) (by first | decide | omega) dX4_minor_100 ⟨rfl, q1, rfl⟩
      · have hl14 : i < n - 1 := nle_lt (by omega) c_14
        have hpi := pcI_le Ra i
        refine g_iload_n (pc := 17) C 1 rfl rfl dX4_minor_17 ?_
        refine g_iload (pc := 18) C 4 rfl dX4_minor_18 ?_
        refine g_ishr (pc := 20) C dX4_minor_20 ?_
        refine g_iconst (pc := 21) (v := 1) C (by decide) dX4_minor_21 ?_
        refine g_iand (pc := 22) C dX4_minor_22 ?_
        refine g_iconst (pc := 23) (v := 1) C (by decide) dX4_minor_23 ?_
        refine g_icmp_ne (pc := 24) C 86 (by decide) dX4_minor_24 (fun c_24 => ?_) (fun c_24 => ?_)
        · refine g_iinc (pc := 86) (n := 1) (v := (nI (i + 1))) C 4 [(4, .int (nI (i + 1))), (0, .ref o4), (1, .int Ra), (2, .int Ca), (3, .int (nI (pcI Ra i)))] rfl (nI_1 i) dX4_minor_86 (by decide) rfl ?_
          refine g_goto (pc := 89) C 5 (by decide) dX4_minor_89 ?_
          refine G.loc [1, 2, 3, 4, 0] (lv' := [(0, .ref o4), (1, .int Ra), (2, .int Ca), (3, .int (nI (pcI Ra i))), (4, .int (nI (i + 1)))]) rfl ?_
          refine G.fnJ (mnR fj fd z (n - 1) Ra Ca fm (i + 1)) 2 [(o4, .inr (6, [.ref h, .ref m1, .ref m2])), (m1, .inr (7, [.ref m3])), (m3, aJ k 25 (mnR fj fd z (n - 1) Ra Ca fm (i + 1))), (h, .inr (5, [.ref jj, .ref dd, .int (nI n), .int (nI z)])), (jj, aI k 36 fj), (dd, aI k 6 fd)] rfl (fun j hj => by first | (rw [mnR_n c_24]) | (rw [mnR_y c_24, h4])) rfl ?_
          refine G.eql (lv' := [(0, .ref o4), (1, .int Ra), (2, .int Ca), (3, .int (nI (pcI Ra (i + 1)))), (4, .int (nI (i + 1)))]) (congrArg (β := List (Nat × Value)) (fun z9 => [(0, .ref o4), (1, .int Ra), (2, .int Ca), (3, .int z9), (4, .int (nI (i + 1)))]) (show ((nI (pcI Ra i)) : Int32) = (nI (pcI Ra (i + 1))) from by first | rfl | (rw [pcI_n c_24]) | (rw [pcI_y c_24]))) ?_
          exact ih_5 (i + 1) (by omega) (by omega)
        · refine g_iconst (pc := 27) (v := 0) C (by decide) dX4_minor_27 ?_
          refine g_istore (pc := 28) C [(5, .int 0), (0, .ref o4), (1, .int Ra), (2, .int Ca), (3, .int (nI (pcI Ra i))), (4, .int (nI i))] dX4_minor_28 (by decide) rfl ?_
          refine g_iconst (pc := 30) (v := 0) C (by decide) dX4_minor_30 ?_
          refine g_istore (pc := 31) C [(6, .int 0), (5, .int 0), (0, .ref o4), (1, .int Ra), (2, .int Ca), (3, .int (nI (pcI Ra i))), (4, .int (nI i))] dX4_minor_31 (by decide) rfl ?_
          have key_33 : ∀ (fuel : Nat) (j : Nat), j ≤ n - 1 → n - 1 - j < fuel → G p9 l e9 { frames := 3, cells := 0, slots := 0, locals := 80 } s9 m9 ([.ref o4, .int Ra, .int Ca] : List Value).toArray bl9 me9 co9 D 7 (va_A [(o4, .inr (6, [.ref h, .ref m1, .ref m2])), (m1, .inr (7, [.ref m3])), (m3, aJ k 25 fm), (h, .inr (5, [.ref jj, .ref dd, .int (nI n), .int (nI z)])), (jj, aI k 36 fj), (dd, aI k 6 fd)] s9.heap.size) (QM bl9 D ([.ref o4, .int Ra, .int Ca] : List Value).toArray s9 [(o4, .inr (6, [.ref h, .ref m1, .ref m2])), (m1, .inr (7, [.ref m3])), (m3, aJ k 25 fm), (h, .inr (5, [.ref jj, .ref dd, .int (nI n), .int (nI z)])), (jj, aI k 36 fj), (dd, aI k 6 fd)] (fun rv9 w9 => rv9 = (some (.long (mnV fj fd n z Ra Ca))) ∧ ∃ (gm : Nat → Int64), w9 = [(o4, .inr (6, [.ref h, .ref m1, .ref m2])), (m1, .inr (7, [.ref m3])), (m3, aJ k 25 gm), (h, .inr (5, [.ref jj, .ref dd, .int (nI n), .int (nI z)])), (jj, aI k 36 fj), (dd, aI k 6 fd)]) 0 0 0) [(o4, .inr (6, [.ref h, .ref m1, .ref m2])), (m1, .inr (7, [.ref m3])), (m3, aJ k 25 (mnC fj fd z Ca (pcI Ra i) i (mnR fj fd z (n - 1) Ra Ca fm i) j)), (h, .inr (5, [.ref jj, .ref dd, .int (nI n), .int (nI z)])), (jj, aI k 36 fj), (dd, aI k 6 fd)] [(0, .ref o4), (1, .int Ra), (2, .int Ca), (3, .int (nI (pcI Ra i))), (4, .int (nI i)), (5, .int (nI (pcI Ca j))), (6, .int (nI j))] 0 0 0 33 [] := by
            intro fuel
            induction fuel with
            | zero => intro j hj hm; exact absurd hm (Nat.not_lt_zero _)
            | succ fuel ih =>
              intro j hj hm
              have ih_33 := ih
              refine g_iload (pc := 33) C 6 rfl dX4_minor_33 ?_
              refine g_aload_n (pc := 35) C 0 rfl rfl dX4_minor_35 ?_
              refine g_get (pc := 36) C (T := TX4) inX4 0 rfl rfl 0 (by decide) q_122 rfl rfl dX4_minor_36 ?_
              refine g_callV (pc := 39) (cells := 0) (slots := 0) (g := 0) (As := []) (st := [.int (nI j)]) (T := TX3) (q0 := 3) C (nA := 0) rfl (c_X3_others h jj dd n z fj fd (by first | assumption | decide | omega) (by first | assumption | decide | omega)) q_263 q_264 q_262 q_16 q_261 (by decide +kernel) rfl rfl dX4_minor_39 ⟨Nat.le_of_ble_eq_true rfl, Nat.le_of_ble_eq_true rfl⟩ [3, 4, 5] [0, 1, 2] rfl (wr := [(o4, .inr (6, [.ref h, .ref m1, .ref m2])), (m1, .inr (7, [.ref m3])), (m3, aJ k 25 (mnC fj fd z Ca (pcI Ra i) i (mnR fj fd z (n - 1) Ra Ca fm i) j))]) rfl (by decide) (by decide) (by decide) (Nat.le_of_ble_eq_true rfl) ⟨Nat.le_of_ble_eq_true rfl, Nat.le_of_ble_eq_true rfl⟩ (fun rv w1 h1 => ?_)
              obtain ⟨rfl, rfl⟩ := h1
              refine G.aft [0, 1, 2, 3, 4, 5] (ws' := [(o4, .inr (6, [.ref h, .ref m1, .ref m2])), (m1, .inr (7, [.ref m3])), (m3, aJ k 25 (mnC fj fd z Ca (pcI Ra i) i (mnR fj fd z (n - 1) Ra Ca fm i) j)), (h, .inr (5, [.ref jj, .ref dd, .int (nI n), .int (nI z)])), (jj, aI k 36 fj), (dd, aI k 6 fd)]) (st' := [.int (nI (n - 1)), .int (nI j)]) (cells' := 0) (slots' := 0) (g' := 0) (by decide) rfl rfl rfl rfl rfl ?_
              refine g_icmp_ge (pc := 42) C 83 (by decide) dX4_minor_42 (fun c_42 => ?_) (fun c_42 => ?_)
              · have h4 : j = n - 1 := by { have := nle_ge (b := n - 1) (a := j) (by omega) c_42; omega }
                refine g_iinc (pc := 83) (n := 1) (v := (nI ((pcI Ra i) + 1))) C 3 [(3, .int (nI ((pcI Ra i) + 1))), (0, .ref o4), (1, .int Ra), (2, .int Ca), (4, .int (nI i)), (5, .int (nI (pcI Ca j))), (6, .int (nI j))] rfl (nI_1 (pcI Ra i)) dX4_minor_83 (by decide) rfl ?_
                refine g_iinc (pc := 86) (n := 1) (v := (nI (i + 1))) C 4 [(4, .int (nI (i + 1))), (3, .int (nI ((pcI Ra i) + 1))), (0, .ref o4), (1, .int Ra), (2, .int Ca), (5, .int (nI (pcI Ca j))), (6, .int (nI j))] rfl (nI_1 i) dX4_minor_86 (by decide) rfl ?_
                refine g_goto (pc := 89) C 5 (by decide) dX4_minor_89 ?_
                refine G.loc [2, 3, 4, 1, 0] (lv' := [(0, .ref o4), (1, .int Ra), (2, .int Ca), (3, .int (nI ((pcI Ra i) + 1))), (4, .int (nI (i + 1)))]) rfl ?_
                refine G.fnJ (mnR fj fd z (n - 1) Ra Ca fm (i + 1)) 2 [(o4, .inr (6, [.ref h, .ref m1, .ref m2])), (m1, .inr (7, [.ref m3])), (m3, aJ k 25 (mnR fj fd z (n - 1) Ra Ca fm (i + 1))), (h, .inr (5, [.ref jj, .ref dd, .int (nI n), .int (nI z)])), (jj, aI k 36 fj), (dd, aI k 6 fd)] rfl (fun j hj => by first | (rw [mnR_n c_24]) | (rw [mnR_y c_24, h4])) rfl ?_
                refine G.eql (lv' := [(0, .ref o4), (1, .int Ra), (2, .int Ca), (3, .int (nI (pcI Ra (i + 1)))), (4, .int (nI (i + 1)))]) (congrArg (β := List (Nat × Value)) (fun z9 => [(0, .ref o4), (1, .int Ra), (2, .int Ca), (3, .int z9), (4, .int (nI (i + 1)))]) (show ((nI ((pcI Ra i) + 1)) : Int32) = (nI (pcI Ra (i + 1))) from by first | rfl | (rw [pcI_n c_24]) | (rw [pcI_y c_24]))) ?_
                exact ih_5 (i + 1) (by omega) (by omega)
              · have hl42 : j < n - 1 := nle_lt (by omega) c_42
                have hpj := pcI_le Ca j
                refine g_iload_n (pc := 45) C 2 rfl rfl dX4_minor_45 ?_
                refine g_iload (pc := 46) C 6 rfl dX4_minor_46 ?_
                refine g_ishr (pc := 48) C dX4_minor_48 ?_
                refine g_iconst (pc := 49) (v := 1) C (by decide) dX4_minor_49 ?_
                refine g_iand (pc := 50) C dX4_minor_50 ?_
                refine g_iconst (pc := 51) (v := 1) C (by decide) dX4_minor_51 ?_
                refine g_icmp_ne (pc := 52) C 77 (by decide) dX4_minor_52 (fun c_52 => ?_) (fun c_52 => ?_)
                · refine g_iinc (pc := 77) (n := 1) (v := (nI (j + 1))) C 6 [(6, .int (nI (j + 1))), (0, .ref o4), (1, .int Ra), (2, .int Ca), (3, .int (nI (pcI Ra i))), (4, .int (nI i)), (5, .int (nI (pcI Ca j)))] rfl (nI_1 j) dX4_minor_77 (by decide) rfl ?_
                  refine g_goto (pc := 80) C 33 (by decide) dX4_minor_80 ?_
                  refine G.loc [1, 2, 3, 4, 5, 6, 0] (lv' := [(0, .ref o4), (1, .int Ra), (2, .int Ca), (3, .int (nI (pcI Ra i))), (4, .int (nI i)), (5, .int (nI (pcI Ca j))), (6, .int (nI (j + 1)))]) rfl ?_
                  refine G.fnJ (mnC fj fd z Ca (pcI Ra i) i (mnR fj fd z (n - 1) Ra Ca fm i) (j + 1)) 2 [(o4, .inr (6, [.ref h, .ref m1, .ref m2])), (m1, .inr (7, [.ref m3])), (m3, aJ k 25 (mnC fj fd z Ca (pcI Ra i) i (mnR fj fd z (n - 1) Ra Ca fm i) (j + 1))), (h, .inr (5, [.ref jj, .ref dd, .int (nI n), .int (nI z)])), (jj, aI k 36 fj), (dd, aI k 6 fd)] rfl (fun j hj => by first | (rw [mnC_n c_52]) | (rw [mnC_y c_52])) rfl ?_
                  refine G.eql (lv' := [(0, .ref o4), (1, .int Ra), (2, .int Ca), (3, .int (nI (pcI Ra i))), (4, .int (nI i)), (5, .int (nI (pcI Ca (j + 1)))), (6, .int (nI (j + 1)))]) (congrArg (β := List (Nat × Value)) (fun z9 => [(0, .ref o4), (1, .int Ra), (2, .int Ca), (3, .int (nI (pcI Ra i))), (4, .int (nI i)), (5, .int z9), (6, .int (nI (j + 1)))]) (show ((nI (pcI Ca j)) : Int32) = (nI (pcI Ca (j + 1))) from by first | rfl | (rw [pcI_n c_52]) | (rw [pcI_y c_52]))) ?_
                  exact ih_33 (j + 1) (by omega) (by omega)
                · refine g_aload_n (pc := 55) C 0 rfl rfl dX4_minor_55 ?_
                  refine g_get (pc := 56) C (T := TX4) inX4 0 rfl rfl 1 (by decide) q_118 rfl rfl dX4_minor_56 ?_
                  refine g_iload_n (pc := 59) C 3 rfl rfl dX4_minor_59 ?_
                  refine g_iload (pc := 60) C 5 rfl dX4_minor_60 ?_
                  refine g_aload_n (pc := 62) C 0 rfl rfl dX4_minor_62 ?_
                  refine g_iload (pc := 63) C 4 rfl dX4_minor_63 ?_
                  refine g_iload (pc := 65) C 6 rfl dX4_minor_65 ?_
                  refine g_callV (pc := 67) (cells := 0) (slots := 0) (g := 0) (As := [.int (nI i), .int (nI j)]) (st := [.int (nI (pcI Ca j)), .int (nI (pcI Ra i)), .ref m1]) (T := TX4) (q0 := 0) C (nA := 2) rfl (c_X4_entry h jj dd n z fj fd o4 m1 m2 i j (by first | assumption | decide | omega) (by first | assumption | decide | omega) (by first | assumption | decide | omega) (by first | assumption | decide | omega)) q_271 q_272 q_270 q_155 q_269 (by decide +kernel) rfl rfl dX4_minor_67 ⟨Nat.le_of_ble_eq_true rfl, Nat.le_of_ble_eq_true rfl⟩ [0, 3, 4, 5] [1, 2] rfl (wr := [(m1, .inr (7, [.ref m3])), (m3, aJ k 25 (mnC fj fd z Ca (pcI Ra i) i (mnR fj fd z (n - 1) Ra Ca fm i) j))]) rfl (by decide) (by decide) (by decide) (Nat.le_of_ble_eq_true rfl) ⟨Nat.le_of_ble_eq_true rfl, Nat.le_of_ble_eq_true rfl⟩ (fun rv w1 h1 => ?_)
                  obtain ⟨rfl, rfl⟩ := h1
                  refine G.aft [2, 0, 1, 3, 4, 5] (ws' := [(o4, .inr (6, [.ref h, .ref m1, .ref m2])), (m1, .inr (7, [.ref m3])), (m3, aJ k 25 (mnC fj fd z Ca (pcI Ra i) i (mnR fj fd z (n - 1) Ra Ca fm i) j)), (h, .inr (5, [.ref jj, .ref dd, .int (nI n), .int (nI z)])), (jj, aI k 36 fj), (dd, aI k 6 fd)]) (st' := [.int (entI fj fd z i j), .int (nI (pcI Ca j)), .int (nI (pcI Ra i)), .ref m1]) (cells' := 0) (slots' := 0) (g' := 0) (by decide) rfl rfl rfl rfl rfl ?_
                  refine g_i2l (pc := 70) C dX4_minor_70 ?_
                  refine g_callV (pc := 71) (cells := 0) (slots := 0) (g := 0) (As := [.int (nI (pcI Ra i)), .int (nI (pcI Ca j)), .long ((entI fj fd z i j).toInt64)]) (st := []) (T := TX5) (q0 := 1) C (nA := 3) rfl (c_X5_write m1 m3 (mnC fj fd z Ca (pcI Ra i) i (mnR fj fd z (n - 1) Ra Ca fm i) j) (pcI Ra i) (pcI Ca j) ((entI fj fd z i j).toInt64) (by first | assumption | decide | omega) (by first | assumption | decide | omega)) q_273 q_239 q_237 q_115 q_236 (by decide +kernel) rfl rfl dX4_minor_71 ⟨Nat.le_of_ble_eq_true rfl, Nat.le_of_ble_eq_true rfl⟩ [1, 2] [0, 3, 4, 5] rfl (wr := [(o4, .inr (6, [.ref h, .ref m1, .ref m2])), (h, .inr (5, [.ref jj, .ref dd, .int (nI n), .int (nI z)])), (jj, aI k 36 fj), (dd, aI k 6 fd)]) rfl (by decide) (by decide) (by decide) (Nat.le_of_ble_eq_true rfl) ⟨Nat.le_of_ble_eq_true rfl, Nat.le_of_ble_eq_true rfl⟩ (fun rv w1 h1 => ?_)
                  obtain ⟨rfl, rfl⟩ := h1
                  refine G.aft [0, 4, 5, 1, 2, 3] (ws' := [(o4, .inr (6, [.ref h, .ref m1, .ref m2])), (m1, .inr (7, [.ref m3])), (m3, aJ k 25 (vp_updL (mnC fj fd z Ca (pcI Ra i) i (mnR fj fd z (n - 1) Ra Ca fm i) j) ((pcI Ra i) * 5 + (pcI Ca j)) ((entI fj fd z i j).toInt64))), (h, .inr (5, [.ref jj, .ref dd, .int (nI n), .int (nI z)])), (jj, aI k 36 fj), (dd, aI k 6 fd)]) (st' := []) (cells' := 0) (slots' := 0) (g' := 0) (by decide) rfl rfl rfl rfl rfl ?_
                  refine g_iinc (pc := 74) (n := 1) (v := (nI ((pcI Ca j) + 1))) C 5 [(5, .int (nI ((pcI Ca j) + 1))), (0, .ref o4), (1, .int Ra), (2, .int Ca), (3, .int (nI (pcI Ra i))), (4, .int (nI i)), (6, .int (nI j))] rfl (nI_1 (pcI Ca j)) dX4_minor_74 (by decide) rfl ?_
                  refine g_iinc (pc := 77) (n := 1) (v := (nI (j + 1))) C 6 [(6, .int (nI (j + 1))), (5, .int (nI ((pcI Ca j) + 1))), (0, .ref o4), (1, .int Ra), (2, .int Ca), (3, .int (nI (pcI Ra i))), (4, .int (nI i))] rfl (nI_1 j) dX4_minor_77 (by decide) rfl ?_
                  refine g_goto (pc := 80) C 33 (by decide) dX4_minor_80 ?_
                  refine G.loc [2, 3, 4, 5, 6, 1, 0] (lv' := [(0, .ref o4), (1, .int Ra), (2, .int Ca), (3, .int (nI (pcI Ra i))), (4, .int (nI i)), (5, .int (nI ((pcI Ca j) + 1))), (6, .int (nI (j + 1)))]) rfl ?_
                  refine G.fnJ (mnC fj fd z Ca (pcI Ra i) i (mnR fj fd z (n - 1) Ra Ca fm i) (j + 1)) 2 [(o4, .inr (6, [.ref h, .ref m1, .ref m2])), (m1, .inr (7, [.ref m3])), (m3, aJ k 25 (mnC fj fd z Ca (pcI Ra i) i (mnR fj fd z (n - 1) Ra Ca fm i) (j + 1))), (h, .inr (5, [.ref jj, .ref dd, .int (nI n), .int (nI z)])), (jj, aI k 36 fj), (dd, aI k 6 fd)] rfl (fun j hj => by first | (rw [mnC_n c_52]) | (rw [mnC_y c_52])) rfl ?_
                  refine G.eql (lv' := [(0, .ref o4), (1, .int Ra), (2, .int Ca), (3, .int (nI (pcI Ra i))), (4, .int (nI i)), (5, .int (nI (pcI Ca (j + 1)))), (6, .int (nI (j + 1)))]) (congrArg (β := List (Nat × Value)) (fun z9 => [(0, .ref o4), (1, .int Ra), (2, .int Ca), (3, .int (nI (pcI Ra i))), (4, .int (nI i)), (5, .int z9), (6, .int (nI (j + 1)))]) (show ((nI ((pcI Ca j) + 1)) : Int32) = (nI (pcI Ca (j + 1))) from by first | rfl | (rw [pcI_n c_52]) | (rw [pcI_y c_52]))) ?_
                  exact ih_33 (j + 1) (by omega) (by omega)
          refine G.loc [2, 3, 4, 5, 6, 1, 0] (lv' := [(0, .ref o4), (1, .int Ra), (2, .int Ca), (3, .int (nI (pcI Ra i))), (4, .int (nI i)), (5, .int 0), (6, .int 0)]) rfl ?_
          refine G.fnJ (mnC fj fd z Ca (pcI Ra i) i (mnR fj fd z (n - 1) Ra Ca fm i) 0) 2 [(o4, .inr (6, [.ref h, .ref m1, .ref m2])), (m1, .inr (7, [.ref m3])), (m3, aJ k 25 (mnC fj fd z Ca (pcI Ra i) i (mnR fj fd z (n - 1) Ra Ca fm i) 0)), (h, .inr (5, [.ref jj, .ref dd, .int (nI n), .int (nI z)])), (jj, aI k 36 fj), (dd, aI k 6 fd)] rfl (fun j hj => by rfl) rfl ?_
          refine G.eql (lv' := [(0, .ref o4), (1, .int Ra), (2, .int Ca), (3, .int (nI (pcI Ra i))), (4, .int (nI i)), (5, .int (nI (pcI Ca 0))), (6, .int (nI 0))]) ((congrArg (β := List (Nat × Value)) (fun z9 => [(0, .ref o4), (1, .int Ra), (2, .int Ca), (3, .int (nI (pcI Ra i))), (4, .int (nI i)), (5, .int z9), (6, .int 0)]) (show (0 : Int32) = (nI (pcI Ca 0)) from by first | rfl | exact nI_0.symm)).trans (congrArg (β := List (Nat × Value)) (fun z9 => [(0, .ref o4), (1, .int Ra), (2, .int Ca), (3, .int (nI (pcI Ra i))), (4, .int (nI i)), (5, .int (nI (pcI Ca 0))), (6, .int z9)]) (show (0 : Int32) = (nI 0) from by first | rfl | exact nI_0.symm))) ?_
          exact key_33 (n - 1 - 0 + 1) 0 (by omega) (Nat.lt_succ_self _)
  refine G.loc [2, 3, 4, 1, 0] (lv' := [(0, .ref o4), (1, .int Ra), (2, .int Ca), (3, .int 0), (4, .int 0)]) rfl ?_
  refine G.fnJ (mnR fj fd z (n - 1) Ra Ca fm 0) 2 [(o4, .inr (6, [.ref h, .ref m1, .ref m2])), (m1, .inr (7, [.ref m3])), (m3, aJ k 25 (mnR fj fd z (n - 1) Ra Ca fm 0)), (h, .inr (5, [.ref jj, .ref dd, .int (nI n), .int (nI z)])), (jj, aI k 36 fj), (dd, aI k 6 fd)] rfl (fun j hj => by rfl) rfl ?_
  refine G.eql (lv' := [(0, .ref o4), (1, .int Ra), (2, .int Ca), (3, .int (nI (pcI Ra 0))), (4, .int (nI 0))]) ((congrArg (β := List (Nat × Value)) (fun z9 => [(0, .ref o4), (1, .int Ra), (2, .int Ca), (3, .int z9), (4, .int 0)]) (show (0 : Int32) = (nI (pcI Ra 0)) from by first | rfl | exact nI_0.symm)).trans (congrArg (β := List (Nat × Value)) (fun z9 => [(0, .ref o4), (1, .int Ra), (2, .int Ca), (3, .int (nI (pcI Ra 0))), (4, .int z9)]) (show (0 : Int32) = (nI 0) from by first | rfl | exact nI_0.symm))) ?_
  exact key_5 (n - 1 - 0 + 1) 0 (by omega) (Nat.lt_succ_self _)
set_option maxRecDepth 100000 in
set_option maxHeartbeats 400000 in
theorem c_X4_treeNumber {l : Launch} {D : va_G} {k : Nat → ClassId} (h : Nat) (jj : Nat) (dd : Nat) (n : Nat) (z : Nat) (fj : Nat → Int32) (fd : Nat → Int32) (o4 : Nat) (m1 : Nat) (m2 : Nat) (m3 : Nat) (fm : Nat → Int64) (hn : n ≤ 6) (hz : z < n) (h1 : 1 ≤ n) : CM l D k yX4_treeNumber cX4_treeNumber 2 (some .long)  4 106 [.ref o4] [(o4, .inr (6, [.ref h, .ref m1, .ref m2])), (m1, .inr (7, [.ref m3])), (m3, aJ k 25 fm), (h, .inr (5, [.ref jj, .ref dd, .int (nI n), .int (nI z)])), (jj, aI k 36 fj), (dd, aI k 6 fd)] (fun rv9 w9 => rv9 = (some (.long (mnV fj fd n z ((1 <<< (nI (n - 1) &&& 31)) - 1) ((1 <<< (nI (n - 1) &&& 31)) - 1)))) ∧ ∃ (gm : Nat → Int64), w9 = [(o4, .inr (6, [.ref h, .ref m1, .ref m2])), (m1, .inr (7, [.ref m3])), (m3, aJ k 25 gm), (h, .inr (5, [.ref jj, .ref dd, .int (nI n), .int (nI z)])), (jj, aI k 36 fj), (dd, aI k 6 fd)]) 0 0 0 := by
  refine CM.of (lv0 := [(0, .ref o4)]) (by decide +kernel) (Nat.le_of_ble_eq_true rfl) rfl ?_
  intro p9 e9 s9 m9 bl9 me9 co9 C hr hlk hin had
  refine g_iconst (pc := 0) (v := 1) C (by decide) dX4_treeNumber_0 ?_
  refine g_aload_n (pc := 1) C 0 rfl rfl dX4_treeNumber_1 ?_
  refine g_get (pc := 2) C (T := TX4) inX4 0 rfl rfl 0 (by decide) q_122 rfl rfl dX4_treeNumber_2 ?_
  refine g_callV (pc := 5) (cells := 0) (slots := 0) (g := 0) (As := []) (st := [.int 1]) (T := TX3) (q0 := 3) C (nA := 0) rfl (c_X3_others h jj dd n z fj fd (by first | assumption | decide | omega) (by first | assumption | decide | omega)) q_263 q_264 q_262 q_16 q_261 (by decide +kernel) rfl rfl dX4_treeNumber_5 ⟨Nat.le_of_ble_eq_true rfl, Nat.le_of_ble_eq_true rfl⟩ [3, 4, 5] [0, 1, 2] rfl (wr := [(o4, .inr (6, [.ref h, .ref m1, .ref m2])), (m1, .inr (7, [.ref m3])), (m3, aJ k 25 fm)]) rfl (by decide) (by decide) (by decide) (Nat.le_of_ble_eq_true rfl) ⟨Nat.le_of_ble_eq_true rfl, Nat.le_of_ble_eq_true rfl⟩ (fun rv w1 h1 => ?_)
  obtain ⟨rfl, rfl⟩ := h1
  refine G.aft [0, 1, 2, 3, 4, 5] (ws' := [(o4, .inr (6, [.ref h, .ref m1, .ref m2])), (m1, .inr (7, [.ref m3])), (m3, aJ k 25 fm), (h, .inr (5, [.ref jj, .ref dd, .int (nI n), .int (nI z)])), (jj, aI k 36 fj), (dd, aI k 6 fd)]) (st' := [.int (nI (n - 1)), .int 1]) (cells' := 0) (slots' := 0) (g' := 0) (by decide) rfl rfl rfl rfl rfl ?_
  refine g_ishl (pc := 8) C dX4_treeNumber_8 ?_
  refine g_iconst (pc := 9) (v := 1) C (by decide) dX4_treeNumber_9 ?_
  refine g_isub (pc := 10) C dX4_treeNumber_10 ?_
  refine g_istore_n (pc := 11) C [(1, .int ((1 <<< ((nI (n - 1)) &&& 31)) - 1)), (0, .ref o4)] rfl dX4_treeNumber_11 (by decide) rfl ?_
  refine g_aload_n (pc := 12) C 1 rfl rfl dX4_treeNumber_12 ?_
  refine g_get (pc := 13) C (T := TX4) inX4 0 rfl rfl 0 (by decide) q_122 rfl rfl dX4_treeNumber_13 ?_
  refine g_callV (pc := 16) (cells := 0) (slots := 0) (g := 0) (As := []) (st := []) (T := TX3) (q0 := 3) C (nA := 0) rfl (c_X3_size h jj dd n z fj fd ) q_274 q_67 q_65 q_16 q_64 (by decide +kernel) rfl rfl dX4_treeNumber_16 ⟨Nat.le_of_ble_eq_true rfl, Nat.le_of_ble_eq_true rfl⟩ [3, 4, 5] [0, 1, 2] rfl (wr := [(o4, .inr (6, [.ref h, .ref m1, .ref m2])), (m1, .inr (7, [.ref m3])), (m3, aJ k 25 fm)]) rfl (by decide) (by decide) (by decide) (Nat.le_of_ble_eq_true rfl) ⟨Nat.le_of_ble_eq_true rfl, Nat.le_of_ble_eq_true rfl⟩ (fun rv w1 h1 => ?_)
  obtain ⟨rfl, rfl⟩ := h1
  refine G.aft [0, 1, 2, 3, 4, 5] (ws' := [(o4, .inr (6, [.ref h, .ref m1, .ref m2])), (m1, .inr (7, [.ref m3])), (m3, aJ k 25 fm), (h, .inr (5, [.ref jj, .ref dd, .int (nI n), .int (nI z)])), (jj, aI k 36 fj), (dd, aI k 6 fd)]) (st' := [.int (nI n)]) (cells' := 0) (slots' := 0) (g' := 0) (by decide) rfl rfl rfl rfl rfl ?_
  refine g_if_ne (pc := 19) C 26 (by decide) dX4_treeNumber_19 (fun c_19 => ?_) (fun c_19 => ?_)
  · refine g_aload_n (pc := 26) C 1 rfl rfl dX4_treeNumber_26 ?_
    refine g_iload_n (pc := 27) C 0 rfl rfl dX4_treeNumber_27 ?_
    refine g_iload_n (pc := 28) C 0 rfl rfl dX4_treeNumber_28 ?_
    refine g_callV (pc := 29) (cells := 0) (slots := 0) (g := 0) (As := [.int ((1 <<< ((nI (n - 1)) &&& 31)) - 1), .int ((1 <<< ((nI (n - 1)) &&& 31)) - 1)]) (st := []) (T := TX4) (q0 := 0) C (nA := 2) rfl (c_X4_minor h jj dd n z fj fd o4 m1 m2 m3 fm ((1 <<< ((nI (n - 1)) &&& 31)) - 1) ((1 <<< ((nI (n - 1)) &&& 31)) - 1) (by first | assumption | decide | omega) (by first | assumption | decide | omega) (by first | assumption | decide | omega) rfl) q_277 q_278 q_276 q_155 q_275 (by decide +kernel) rfl rfl dX4_treeNumber_29 ⟨Nat.le_of_ble_eq_true rfl, Nat.le_of_ble_eq_true rfl⟩ [0, 1, 2, 3, 4, 5] [] rfl (wr := []) rfl (by decide) (by decide) (by decide) (Nat.le_of_ble_eq_true rfl) ⟨Nat.le_of_ble_eq_true rfl, Nat.le_of_ble_eq_true rfl⟩ (fun rv w1 h1 => ?_)
    obtain ⟨rfl, q1, rfl⟩ := h1
    refine G.aft [0, 1, 2, 3, 4, 5] (ws' := [(o4, .inr (6, [.ref h, .ref m1, .ref m2])), (m1, .inr (7, [.ref m3])), (m3, aJ k 25 q1), (h, .inr (5, [.ref jj, .ref dd, .int (nI n), .int (nI z)])), (jj, aI k 36 fj), (dd, aI k 6 fd)]) (st' := [.long (mnV fj fd n z ((1 <<< ((nI (n - 1)) &&& 31)) - 1) ((1 <<< ((nI (n - 1)) &&& 31)) - 1))]) (cells' := 0) (slots' := 0) (g' := 0) (by decide) rfl rfl rfl rfl rfl ?_
    refine G.eqs (st' := [.long (mnV fj fd n z ((1 <<< (nI (n - 1) &&& 31)) - 1) ((1 <<< (nI (n - 1) &&& 31)) - 1))]) (congrArg (fun z9 => [Value.long z9]) (show ((mnV fj fd n z ((1 <<< ((nI (n - 1)) &&& 31)) - 1) ((1 <<< ((nI (n - 1)) &&& 31)) - 1)) : Int64) = (mnV fj fd n z ((1 <<< (nI (n - 1) &&& 31)) - 1) ((1 <<< (nI (n - 1) &&& 31)) - 1)) from by first | rfl | simp_all)) ?_
    exact g_lret (pc := 32) C hr hlk (by first | decide | omega) (by first | decide | omega) (by first | decide | omega) dX4_treeNumber_32 ⟨rfl, q1, rfl⟩
  · exact absurd c_19 (nI_ne0 (by omega) (by omega))
/-- the common divisor by division with rest -/
def cdL : Nat → Int64 → Int64 → Int64
  | 0, a, _ => a
  | r + 1, a, b => if b = 0 then a else cdL r b (a - a / b * b)
def abL (a : Int64) : Int64 := if 0 < a then a else -a
def cdV (a b : Int64) : Int64 := cdL mR (abL a) (abL b)
theorem cdL_n {r k : Nat} {a b T : Int64} (hr : r = k + 1) (h : cdL r a b = T) (hb : ¬ b = 0) : cdL k b (a - a / b * b) = T := by
  subst hr
  rw [← h]
  show _ = (if _ then _ else _)
  rw [if_neg hb]
theorem cdL_e {r : Nat} {a b T : Int64} (h : cdL r a b = T) (hb : b = 0) : a = T := by
  rw [← h]
  cases r with
  | zero => rfl
  | succ k => show _ = (if _ then _ else _); rw [if_pos hb]
set_option maxRecDepth 100000 in
set_option maxHeartbeats 400000 in
theorem c_X4_commonDivisor {l : Launch} {D : va_G} {k : Nat → ClassId} (a : Int64) (b : Int64)  : CM l D k yX4_commonDivisor cX4_commonDivisor 11 (some .long)  1 13 [.long a, .long b] [] (is1 (some (.long (cdV a b))) []) 0 0 0 := by
  refine CM.of (lv0 := [(0, .long a), (2, .long b)]) (by decide +kernel) (Nat.le_of_ble_eq_true rfl) rfl ?_
  intro p9 e9 s9 m9 bl9 me9 co9 C hr hlk hin had
  refine g_lload_n (pc := 0) C 0 rfl rfl dX4_commonDivisor_0 ?_
  refine g_labs (pc := 1) C q_279 q_280 q_226 q_281 (Nat.le_of_ble_eq_true rfl) (Nat.le_of_ble_eq_true rfl) (Nat.le_of_ble_eq_true rfl) (Nat.le_of_ble_eq_true rfl) dX4_commonDivisor_1 ?_
  refine g_lstore (pc := 4) C [(4, .long (if 0 < a then a else -a)), (0, .long a), (2, .long b)] dX4_commonDivisor_4 (by decide) rfl ?_
  refine g_lload_n (pc := 6) C 2 rfl rfl dX4_commonDivisor_6 ?_
  refine g_labs (pc := 7) C q_279 q_280 q_226 q_281 (Nat.le_of_ble_eq_true rfl) (Nat.le_of_ble_eq_true rfl) (Nat.le_of_ble_eq_true rfl) (Nat.le_of_ble_eq_true rfl) dX4_commonDivisor_7 ?_
  refine g_lstore (pc := 10) C [(6, .long (if 0 < b then b else -b)), (4, .long (if 0 < a then a else -a)), (0, .long a), (2, .long b)] dX4_commonDivisor_10 (by decide) rfl ?_
  refine g_iconst (pc := 12) (v := 0) C (by decide) dX4_commonDivisor_12 ?_
  refine g_istore (pc := 13) C [(8, .int 0), (6, .long (if 0 < b then b else -b)), (4, .long (if 0 < a then a else -a)), (0, .long a), (2, .long b)] dX4_commonDivisor_13 (by decide) rfl ?_
  have key_15 : ∀ (fuel : Nat) (r : Nat) (x : Int64) (y : Int64), r ≤ mR → cdL (mR - r) x y = cdV a b → mR - r < fuel → G p9 l e9 { frames := 1, cells := 0, slots := 0, locals := 13 } s9 m9 ([.long a, .long b] : List Value).toArray bl9 me9 co9 D 11 (va_A [] s9.heap.size) (QM bl9 D ([.long a, .long b] : List Value).toArray s9 [] (is1 (some (.long (cdV a b))) []) 0 0 0) [] [(4, .long x), (6, .long y), (8, .int (nI r))] 0 0 0 15 [] := by
    intro fuel
    induction fuel with
    | zero => intro r x y hr1 hC hm; exact absurd hm (Nat.not_lt_zero _)
    | succ fuel ih =>
      intro r x y hr1 hC hm
      have ih_15 := ih
      have hmR : mR = 1000000 := rfl
      refine g_iload (pc := 15) C 2 rfl dX4_commonDivisor_15 ?_
      refine g_ldc (pc := 17) C (v := 1000000) q_282 dX4_commonDivisor_17 ?_
      refine g_icmp_ge (pc := 19) C 50 (by decide) dX4_commonDivisor_19 (fun c_19 => ?_) (fun c_19 => ?_)
      · have h7 : r = mR := by { have := nle_ge (b := mR) (by rw [mR_e]; omega) c_19; omega }
        refine g_lload (pc := 50) C 0 rfl dX4_commonDivisor_50 ?_
        refine G.eqs (st' := [.long (cdV a b)]) (congrArg (fun z9 => [Value.long z9]) (show (x : Int64) = (cdV a b) from by first | exact cdL_e hC c_26 | (subst h7; rw [Nat.sub_self] at hC; exact hC))) ?_
        exact g_lret (pc := 52) C hr hlk (by first | decide | omega) (by first | decide | omega) (by first | decide | omega) dX4_commonDivisor_52 ⟨rfl, rfl⟩
      · have h7 : r < mR := nle_lt (b := mR) (by omega) c_19
        refine g_lload (pc := 22) C 1 rfl dX4_commonDivisor_22 ?_
        refine g_lconst (pc := 24) (v := 0) C (by decide) dX4_commonDivisor_24 ?_
        refine g_lcmp (pc := 25) C dX4_commonDivisor_25 ?_
        refine g_if_eq (pc := 26) C 50 (by decide) dX4_commonDivisor_26 (fun c_26 => ?_) (fun c_26 => ?_)
        · rw [lc_0] at c_26
          refine g_lload (pc := 50) C 0 rfl dX4_commonDivisor_50 ?_
          refine G.eqs (st' := [.long (cdV a b)]) (congrArg (fun z9 => [Value.long z9]) (show (x : Int64) = (cdV a b) from by first | exact cdL_e hC c_26 | (subst h7; rw [Nat.sub_self] at hC; exact hC))) ?_
          exact g_lret (pc := 52) C hr hlk (by first | decide | omega) (by first | decide | omega) (by first | decide | omega) dX4_commonDivisor_52 ⟨rfl, rfl⟩
        · rw [lc_0] at c_26
          refine g_lload (pc := 29) C 0 rfl dX4_commonDivisor_29 ?_
          refine g_lload (pc := 31) C 1 rfl dX4_commonDivisor_31 ?_
          refine g_lrem (pc := 33) C c_26 dX4_commonDivisor_33 ?_
          refine g_lstore (pc := 34) C [(9, .long (x - x / y * y)), (4, .long x), (6, .long y), (8, .int (nI r))] dX4_commonDivisor_34 (by decide) rfl ?_
          refine g_lload (pc := 36) C 2 rfl dX4_commonDivisor_36 ?_
          refine g_lstore (pc := 38) C [(4, .long y), (9, .long (x - x / y * y)), (6, .long y), (8, .int (nI r))] dX4_commonDivisor_38 (by decide) rfl ?_
          refine g_lload (pc := 40) C 1 rfl dX4_commonDivisor_40 ?_
          refine g_lstore (pc := 42) C [(6, .long (x - x / y * y)), (4, .long y), (9, .long (x - x / y * y)), (8, .int (nI r))] dX4_commonDivisor_42 (by decide) rfl ?_
          refine g_iinc (pc := 44) (n := 1) (v := (nI (r + 1))) C 3 [(8, .int (nI (r + 1))), (6, .long (x - x / y * y)), (4, .long y), (9, .long (x - x / y * y))] rfl (nI_1 r) dX4_commonDivisor_44 (by decide) rfl ?_
          refine g_goto (pc := 47) C 15 (by decide) dX4_commonDivisor_47 ?_
          refine G.loc [2, 1, 0] (lv' := [(4, .long y), (6, .long (x - x / y * y)), (8, .int (nI (r + 1)))]) rfl ?_
          exact ih_15 (r + 1) y (x - x / y * y) (by omega) (cdL_n (show mR - r = (mR - (r + 1)) + 1 by omega) hC c_26) (by omega)
  refine G.loc [2, 1, 0] (lv' := [(4, .long (if 0 < a then a else -a)), (6, .long (if 0 < b then b else -b)), (8, .int 0)]) rfl ?_
  refine G.eql (lv' := [(4, .long (abL a)), (6, .long (abL b)), (8, .int (nI 0))]) ((congrArg (β := List (Nat × Value)) (fun z9 => [(4, .long z9), (6, .long (if 0 < b then b else -b)), (8, .int 0)]) (show ((if 0 < a then a else -a) : Int64) = (abL a) from by first | rfl | exact nI_0.symm)).trans ((congrArg (β := List (Nat × Value)) (fun z9 => [(4, .long (abL a)), (6, .long z9), (8, .int 0)]) (show ((if 0 < b then b else -b) : Int64) = (abL b) from by first | rfl | exact nI_0.symm)).trans (congrArg (β := List (Nat × Value)) (fun z9 => [(4, .long (abL a)), (6, .long (abL b)), (8, .int z9)]) (show (0 : Int32) = (nI 0) from by first | rfl | exact nI_0.symm)))) ?_
  exact key_15 (mR - 0 + 1) 0 (abL a) (abL b) (by omega) rfl (Nat.lt_succ_self _)
